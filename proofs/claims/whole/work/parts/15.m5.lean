theorem dX6_declare_0 : decode cX6_declare 0 = .ok (.aload_n 0, 1) := by decide +kernel
theorem dX6_declare_1 : decode cX6_declare 1 = .ok (.aload_n 0, 1) := by decide +kernel
theorem dX6_declare_2 : decode cX6_declare 2 = .ok (.getfield 69, 3) := by decide +kernel
theorem dX6_declare_5 : decode cX6_declare 5 = .ok (.bipush 8, 2) := by decide +kernel
theorem dX6_declare_7 : decode cX6_declare 7 = .ok (.if_icmp .ne 7, 3) := by decide +kernel
theorem dX6_declare_10 : decode cX6_declare 10 = .ok (.iconst 1, 1) := by decide +kernel
theorem dX6_declare_11 : decode cX6_declare 11 = .ok (.goto 4, 3) := by decide +kernel
theorem dX6_declare_14 : decode cX6_declare 14 = .ok (.iconst 0, 1) := by decide +kernel
theorem dX6_declare_15 : decode cX6_declare 15 = .ok (.iconst 0, 1) := by decide +kernel
theorem dX6_declare_16 : decode cX6_declare 16 = .ok (.iconst 0, 1) := by decide +kernel
theorem dX6_declare_17 : decode cX6_declare 17 = .ok (.invokevirtual 135, 3) := by decide +kernel
theorem dX6_declare_20 : decode cX6_declare 20 = .ok (.ifCond .eq 5, 3) := by decide +kernel
theorem dX6_declare_23 : decode cX6_declare 23 = .ok (.iconst 0, 1) := by decide +kernel
theorem dX6_declare_24 : decode cX6_declare 24 = .ok (.ireturn, 1) := by decide +kernel
theorem dX6_declare_25 : decode cX6_declare 25 = .ok (.aload_n 0, 1) := by decide +kernel
theorem dX6_declare_26 : decode cX6_declare 26 = .ok (.invokevirtual 139, 3) := by decide +kernel
theorem dX6_declare_29 : decode cX6_declare 29 = .ok (.ifCond .eq 26, 3) := by decide +kernel
theorem dX6_declare_32 : decode cX6_declare 32 = .ok (.iload_n 1, 1) := by decide +kernel
theorem dX6_declare_33 : decode cX6_declare 33 = .ok (.ifCond .eq 18, 3) := by decide +kernel
theorem dX6_declare_36 : decode cX6_declare 36 = .ok (.iload_n 1, 1) := by decide +kernel
theorem dX6_declare_37 : decode cX6_declare 37 = .ok (.iconst 1, 1) := by decide +kernel
theorem dX6_declare_38 : decode cX6_declare 38 = .ok (.if_icmp .ne 17, 3) := by decide +kernel
theorem dX6_declare_41 : decode cX6_declare 41 = .ok (.aload_n 0, 1) := by decide +kernel
theorem dX6_declare_42 : decode cX6_declare 42 = .ok (.getfield 22, 3) := by decide +kernel
theorem dX6_declare_45 : decode cX6_declare 45 = .ok (.bipush 8, 2) := by decide +kernel
theorem dX6_declare_47 : decode cX6_declare 47 = .ok (.iaload, 1) := by decide +kernel
theorem dX6_declare_48 : decode cX6_declare 48 = .ok (.ifCond .ne 7, 3) := by decide +kernel
theorem dX6_declare_51 : decode cX6_declare 51 = .ok (.iconst 1, 1) := by decide +kernel
theorem dX6_declare_52 : decode cX6_declare 52 = .ok (.goto 4, 3) := by decide +kernel
theorem dX6_declare_55 : decode cX6_declare 55 = .ok (.iconst 0, 1) := by decide +kernel
theorem dX6_declare_56 : decode cX6_declare 56 = .ok (.istore_n 2, 1) := by decide +kernel
theorem dX6_declare_57 : decode cX6_declare 57 = .ok (.aload_n 0, 1) := by decide +kernel
theorem dX6_declare_58 : decode cX6_declare 58 = .ok (.iconst 0, 1) := by decide +kernel
theorem dX6_declare_59 : decode cX6_declare 59 = .ok (.putfield 72, 3) := by decide +kernel
theorem dX6_declare_62 : decode cX6_declare 62 = .ok (.aload_n 0, 1) := by decide +kernel
theorem dX6_declare_63 : decode cX6_declare 63 = .ok (.iconst 0, 1) := by decide +kernel
theorem dX6_declare_64 : decode cX6_declare 64 = .ok (.iload_n 2, 1) := by decide +kernel
theorem dX6_declare_65 : decode cX6_declare 65 = .ok (.ifCond .ne 7, 3) := by decide +kernel
theorem dX6_declare_68 : decode cX6_declare 68 = .ok (.iconst 1, 1) := by decide +kernel
theorem dX6_declare_69 : decode cX6_declare 69 = .ok (.goto 4, 3) := by decide +kernel
theorem dX6_declare_72 : decode cX6_declare 72 = .ok (.iconst 0, 1) := by decide +kernel
theorem dX6_declare_73 : decode cX6_declare 73 = .ok (.iconst 0, 1) := by decide +kernel
theorem dX6_declare_74 : decode cX6_declare 74 = .ok (.invokevirtual 135, 3) := by decide +kernel
theorem dX6_declare_77 : decode cX6_declare 77 = .ok (.ifCond .eq 5, 3) := by decide +kernel
theorem dX6_declare_80 : decode cX6_declare 80 = .ok (.iconst 0, 1) := by decide +kernel
theorem dX6_declare_81 : decode cX6_declare 81 = .ok (.ireturn, 1) := by decide +kernel
theorem dX6_declare_82 : decode cX6_declare 82 = .ok (.aload_n 0, 1) := by decide +kernel
theorem dX6_declare_83 : decode cX6_declare 83 = .ok (.getfield 69, 3) := by decide +kernel
theorem dX6_declare_86 : decode cX6_declare 86 = .ok (.istore_n 3, 1) := by decide +kernel
theorem dX6_declare_87 : decode cX6_declare 87 = .ok (.aload_n 0, 1) := by decide +kernel
theorem dX6_declare_88 : decode cX6_declare 88 = .ok (.getfield 13, 3) := by decide +kernel
theorem dX6_declare_91 : decode cX6_declare 91 = .ok (.iload_n 3, 1) := by decide +kernel
theorem dX6_declare_92 : decode cX6_declare 92 = .ok (.aload_n 0, 1) := by decide +kernel
theorem dX6_declare_93 : decode cX6_declare 93 = .ok (.getfield 13, 3) := by decide +kernel
theorem dX6_declare_96 : decode cX6_declare 96 = .ok (.bipush 8, 2) := by decide +kernel
theorem dX6_declare_98 : decode cX6_declare 98 = .ok (.iaload, 1) := by decide +kernel
theorem dX6_declare_99 : decode cX6_declare 99 = .ok (.iastore, 1) := by decide +kernel
theorem dX6_declare_100 : decode cX6_declare 100 = .ok (.iconst 0, 1) := by decide +kernel
theorem dX6_declare_101 : decode cX6_declare 101 = .ok (.istore 4, 2) := by decide +kernel
theorem dX6_declare_103 : decode cX6_declare 103 = .ok (.iload 4, 2) := by decide +kernel
theorem dX6_declare_105 : decode cX6_declare 105 = .ok (.bipush 24, 2) := by decide +kernel
theorem dX6_declare_107 : decode cX6_declare 107 = .ok (.if_icmp .ge 52, 3) := by decide +kernel
theorem dX6_declare_110 : decode cX6_declare 110 = .ok (.aload_n 0, 1) := by decide +kernel
theorem dX6_declare_111 : decode cX6_declare 111 = .ok (.getfield 16, 3) := by decide +kernel
theorem dX6_declare_114 : decode cX6_declare 114 = .ok (.bipush 24, 2) := by decide +kernel
theorem dX6_declare_116 : decode cX6_declare 116 = .ok (.iload_n 3, 1) := by decide +kernel
theorem dX6_declare_117 : decode cX6_declare 117 = .ok (.imul, 1) := by decide +kernel
theorem dX6_declare_118 : decode cX6_declare 118 = .ok (.iload 4, 2) := by decide +kernel
theorem dX6_declare_120 : decode cX6_declare 120 = .ok (.iadd, 1) := by decide +kernel
theorem dX6_declare_121 : decode cX6_declare 121 = .ok (.aload_n 0, 1) := by decide +kernel
theorem dX6_declare_122 : decode cX6_declare 122 = .ok (.bipush 8, 2) := by decide +kernel
theorem dX6_declare_124 : decode cX6_declare 124 = .ok (.iload 4, 2) := by decide +kernel
theorem dX6_declare_126 : decode cX6_declare 126 = .ok (.invokevirtual 93, 3) := by decide +kernel
theorem dX6_declare_129 : decode cX6_declare 129 = .ok (.iastore, 1) := by decide +kernel
theorem dX6_declare_130 : decode cX6_declare 130 = .ok (.aload_n 0, 1) := by decide +kernel
theorem dX6_declare_131 : decode cX6_declare 131 = .ok (.getfield 19, 3) := by decide +kernel
theorem dX6_declare_134 : decode cX6_declare 134 = .ok (.bipush 24, 2) := by decide +kernel
theorem dX6_declare_136 : decode cX6_declare 136 = .ok (.iload_n 3, 1) := by decide +kernel
theorem dX6_declare_137 : decode cX6_declare 137 = .ok (.imul, 1) := by decide +kernel
theorem dX6_declare_138 : decode cX6_declare 138 = .ok (.iload 4, 2) := by decide +kernel
theorem dX6_declare_140 : decode cX6_declare 140 = .ok (.iadd, 1) := by decide +kernel
theorem dX6_declare_141 : decode cX6_declare 141 = .ok (.aload_n 0, 1) := by decide +kernel
theorem dX6_declare_142 : decode cX6_declare 142 = .ok (.getfield 19, 3) := by decide +kernel
theorem dX6_declare_145 : decode cX6_declare 145 = .ok (.sipush 192, 3) := by decide +kernel
theorem dX6_declare_148 : decode cX6_declare 148 = .ok (.iload 4, 2) := by decide +kernel
theorem dX6_declare_150 : decode cX6_declare 150 = .ok (.iadd, 1) := by decide +kernel
theorem dX6_declare_151 : decode cX6_declare 151 = .ok (.iaload, 1) := by decide +kernel
theorem dX6_declare_152 : decode cX6_declare 152 = .ok (.iastore, 1) := by decide +kernel
theorem dX6_declare_153 : decode cX6_declare 153 = .ok (.iinc 4 1, 3) := by decide +kernel
theorem dX6_declare_156 : decode cX6_declare 156 = .ok (.goto (-53), 3) := by decide +kernel
theorem dX6_declare_159 : decode cX6_declare 159 = .ok (.aload_n 0, 1) := by decide +kernel
theorem dX6_declare_160 : decode cX6_declare 160 = .ok (.getfield 22, 3) := by decide +kernel
theorem dX6_declare_163 : decode cX6_declare 163 = .ok (.iload_n 3, 1) := by decide +kernel
theorem dX6_declare_164 : decode cX6_declare 164 = .ok (.aload_n 0, 1) := by decide +kernel
theorem dX6_declare_165 : decode cX6_declare 165 = .ok (.getfield 22, 3) := by decide +kernel
theorem dX6_declare_168 : decode cX6_declare 168 = .ok (.bipush 8, 2) := by decide +kernel
theorem dX6_declare_170 : decode cX6_declare 170 = .ok (.iaload, 1) := by decide +kernel
theorem dX6_declare_171 : decode cX6_declare 171 = .ok (.iastore, 1) := by decide +kernel
theorem dX6_declare_172 : decode cX6_declare 172 = .ok (.aload_n 0, 1) := by decide +kernel
theorem dX6_declare_173 : decode cX6_declare 173 = .ok (.getfield 25, 3) := by decide +kernel
theorem dX6_declare_176 : decode cX6_declare 176 = .ok (.iload_n 3, 1) := by decide +kernel
theorem dX6_declare_177 : decode cX6_declare 177 = .ok (.iload_n 1, 1) := by decide +kernel
theorem dX6_declare_178 : decode cX6_declare 178 = .ok (.iastore, 1) := by decide +kernel
theorem dX6_declare_179 : decode cX6_declare 179 = .ok (.aload_n 0, 1) := by decide +kernel
theorem dX6_declare_180 : decode cX6_declare 180 = .ok (.getfield 28, 3) := by decide +kernel
theorem dX6_declare_183 : decode cX6_declare 183 = .ok (.iload_n 3, 1) := by decide +kernel
theorem dX6_declare_184 : decode cX6_declare 184 = .ok (.aload_n 0, 1) := by decide +kernel
theorem dX6_declare_185 : decode cX6_declare 185 = .ok (.getfield 28, 3) := by decide +kernel
theorem dX6_declare_188 : decode cX6_declare 188 = .ok (.bipush 8, 2) := by decide +kernel
theorem dX6_declare_190 : decode cX6_declare 190 = .ok (.iaload, 1) := by decide +kernel
theorem dX6_declare_191 : decode cX6_declare 191 = .ok (.iastore, 1) := by decide +kernel
theorem dX6_declare_192 : decode cX6_declare 192 = .ok (.aload_n 0, 1) := by decide +kernel
theorem dX6_declare_193 : decode cX6_declare 193 = .ok (.getfield 31, 3) := by decide +kernel
theorem dX6_declare_196 : decode cX6_declare 196 = .ok (.iload_n 3, 1) := by decide +kernel
theorem dX6_declare_197 : decode cX6_declare 197 = .ok (.aload_n 0, 1) := by decide +kernel
theorem dX6_declare_198 : decode cX6_declare 198 = .ok (.getfield 31, 3) := by decide +kernel
theorem dX6_declare_201 : decode cX6_declare 201 = .ok (.bipush 8, 2) := by decide +kernel
theorem dX6_declare_203 : decode cX6_declare 203 = .ok (.iaload, 1) := by decide +kernel
theorem dX6_declare_204 : decode cX6_declare 204 = .ok (.iastore, 1) := by decide +kernel
theorem dX6_declare_205 : decode cX6_declare 205 = .ok (.aload_n 0, 1) := by decide +kernel
theorem dX6_declare_206 : decode cX6_declare 206 = .ok (.getfield 34, 3) := by decide +kernel
theorem dX6_declare_209 : decode cX6_declare 209 = .ok (.iload_n 3, 1) := by decide +kernel
theorem dX6_declare_210 : decode cX6_declare 210 = .ok (.aload_n 0, 1) := by decide +kernel
theorem dX6_declare_211 : decode cX6_declare 211 = .ok (.getfield 34, 3) := by decide +kernel
theorem dX6_declare_214 : decode cX6_declare 214 = .ok (.bipush 8, 2) := by decide +kernel
theorem dX6_declare_216 : decode cX6_declare 216 = .ok (.baload, 1) := by decide +kernel
theorem dX6_declare_217 : decode cX6_declare 217 = .ok (.bastore, 1) := by decide +kernel
theorem dX6_declare_218 : decode cX6_declare 218 = .ok (.aload_n 0, 1) := by decide +kernel
theorem dX6_declare_219 : decode cX6_declare 219 = .ok (.getfield 38, 3) := by decide +kernel
theorem dX6_declare_222 : decode cX6_declare 222 = .ok (.iload_n 3, 1) := by decide +kernel
theorem dX6_declare_223 : decode cX6_declare 223 = .ok (.aload_n 0, 1) := by decide +kernel
theorem dX6_declare_224 : decode cX6_declare 224 = .ok (.getfield 38, 3) := by decide +kernel
theorem dX6_declare_227 : decode cX6_declare 227 = .ok (.bipush 8, 2) := by decide +kernel
theorem dX6_declare_229 : decode cX6_declare 229 = .ok (.iaload, 1) := by decide +kernel
theorem dX6_declare_230 : decode cX6_declare 230 = .ok (.iastore, 1) := by decide +kernel
theorem dX6_declare_231 : decode cX6_declare 231 = .ok (.aload_n 0, 1) := by decide +kernel
theorem dX6_declare_232 : decode cX6_declare 232 = .ok (.getfield 41, 3) := by decide +kernel
theorem dX6_declare_235 : decode cX6_declare 235 = .ok (.iload_n 3, 1) := by decide +kernel
theorem dX6_declare_236 : decode cX6_declare 236 = .ok (.aload_n 0, 1) := by decide +kernel
theorem dX6_declare_237 : decode cX6_declare 237 = .ok (.getfield 41, 3) := by decide +kernel
theorem dX6_declare_240 : decode cX6_declare 240 = .ok (.bipush 8, 2) := by decide +kernel
theorem dX6_declare_242 : decode cX6_declare 242 = .ok (.iaload, 1) := by decide +kernel
theorem dX6_declare_243 : decode cX6_declare 243 = .ok (.iastore, 1) := by decide +kernel
theorem dX6_declare_244 : decode cX6_declare 244 = .ok (.aload_n 0, 1) := by decide +kernel
theorem dX6_declare_245 : decode cX6_declare 245 = .ok (.getfield 44, 3) := by decide +kernel
theorem dX6_declare_248 : decode cX6_declare 248 = .ok (.iload_n 3, 1) := by decide +kernel
theorem dX6_declare_249 : decode cX6_declare 249 = .ok (.aload_n 0, 1) := by decide +kernel
theorem dX6_declare_250 : decode cX6_declare 250 = .ok (.getfield 44, 3) := by decide +kernel
theorem dX6_declare_253 : decode cX6_declare 253 = .ok (.bipush 8, 2) := by decide +kernel
theorem dX6_declare_255 : decode cX6_declare 255 = .ok (.iaload, 1) := by decide +kernel
theorem dX6_declare_256 : decode cX6_declare 256 = .ok (.iastore, 1) := by decide +kernel
theorem dX6_declare_257 : decode cX6_declare 257 = .ok (.aload_n 0, 1) := by decide +kernel
theorem dX6_declare_258 : decode cX6_declare 258 = .ok (.getfield 47, 3) := by decide +kernel
theorem dX6_declare_261 : decode cX6_declare 261 = .ok (.iload_n 3, 1) := by decide +kernel
theorem dX6_declare_262 : decode cX6_declare 262 = .ok (.aload_n 0, 1) := by decide +kernel
theorem dX6_declare_263 : decode cX6_declare 263 = .ok (.getfield 47, 3) := by decide +kernel
theorem dX6_declare_266 : decode cX6_declare 266 = .ok (.bipush 8, 2) := by decide +kernel
theorem dX6_declare_268 : decode cX6_declare 268 = .ok (.iaload, 1) := by decide +kernel
theorem dX6_declare_269 : decode cX6_declare 269 = .ok (.iastore, 1) := by decide +kernel
theorem dX6_declare_270 : decode cX6_declare 270 = .ok (.aload_n 0, 1) := by decide +kernel
theorem dX6_declare_271 : decode cX6_declare 271 = .ok (.getfield 50, 3) := by decide +kernel
theorem dX6_declare_274 : decode cX6_declare 274 = .ok (.iload_n 3, 1) := by decide +kernel
theorem dX6_declare_275 : decode cX6_declare 275 = .ok (.aload_n 0, 1) := by decide +kernel
theorem dX6_declare_276 : decode cX6_declare 276 = .ok (.getfield 50, 3) := by decide +kernel
theorem dX6_declare_279 : decode cX6_declare 279 = .ok (.bipush 8, 2) := by decide +kernel
theorem dX6_declare_281 : decode cX6_declare 281 = .ok (.iaload, 1) := by decide +kernel
theorem dX6_declare_282 : decode cX6_declare 282 = .ok (.iastore, 1) := by decide +kernel
theorem dX6_declare_283 : decode cX6_declare 283 = .ok (.aload_n 0, 1) := by decide +kernel
theorem dX6_declare_284 : decode cX6_declare 284 = .ok (.getfield 53, 3) := by decide +kernel
theorem dX6_declare_287 : decode cX6_declare 287 = .ok (.iload_n 3, 1) := by decide +kernel
theorem dX6_declare_288 : decode cX6_declare 288 = .ok (.iload_n 1, 1) := by decide +kernel
theorem dX6_declare_289 : decode cX6_declare 289 = .ok (.iconst 1, 1) := by decide +kernel
theorem dX6_declare_290 : decode cX6_declare 290 = .ok (.if_icmp .ne 17, 3) := by decide +kernel
theorem dX6_declare_293 : decode cX6_declare 293 = .ok (.aload_n 0, 1) := by decide +kernel
theorem dX6_declare_294 : decode cX6_declare 294 = .ok (.getfield 53, 3) := by decide +kernel
theorem dX6_declare_297 : decode cX6_declare 297 = .ok (.bipush 8, 2) := by decide +kernel
theorem dX6_declare_299 : decode cX6_declare 299 = .ok (.iaload, 1) := by decide +kernel
theorem dX6_declare_300 : decode cX6_declare 300 = .ok (.iconst 2, 1) := by decide +kernel
theorem dX6_declare_301 : decode cX6_declare 301 = .ok (.idiv, 1) := by decide +kernel
theorem dX6_declare_302 : decode cX6_declare 302 = .ok (.iconst 1, 1) := by decide +kernel
theorem dX6_declare_303 : decode cX6_declare 303 = .ok (.iadd, 1) := by decide +kernel
theorem dX6_declare_304 : decode cX6_declare 304 = .ok (.goto 10, 3) := by decide +kernel
theorem dX6_declare_307 : decode cX6_declare 307 = .ok (.aload_n 0, 1) := by decide +kernel
theorem dX6_declare_308 : decode cX6_declare 308 = .ok (.getfield 53, 3) := by decide +kernel
theorem dX6_declare_311 : decode cX6_declare 311 = .ok (.bipush 8, 2) := by decide +kernel
theorem dX6_declare_313 : decode cX6_declare 313 = .ok (.iaload, 1) := by decide +kernel
theorem dX6_declare_314 : decode cX6_declare 314 = .ok (.iastore, 1) := by decide +kernel
theorem dX6_declare_315 : decode cX6_declare 315 = .ok (.aload_n 0, 1) := by decide +kernel
theorem dX6_declare_316 : decode cX6_declare 316 = .ok (.dup, 1) := by decide +kernel
theorem dX6_declare_317 : decode cX6_declare 317 = .ok (.getfield 69, 3) := by decide +kernel
theorem dX6_declare_320 : decode cX6_declare 320 = .ok (.iconst 1, 1) := by decide +kernel
theorem dX6_declare_321 : decode cX6_declare 321 = .ok (.iadd, 1) := by decide +kernel
theorem dX6_declare_322 : decode cX6_declare 322 = .ok (.putfield 69, 3) := by decide +kernel
theorem dX6_declare_325 : decode cX6_declare 325 = .ok (.aload_n 0, 1) := by decide +kernel
theorem dX6_declare_326 : decode cX6_declare 326 = .ok (.iconst 0, 1) := by decide +kernel
theorem dX6_declare_327 : decode cX6_declare 327 = .ok (.putfield 142, 3) := by decide +kernel
theorem dX6_declare_330 : decode cX6_declare 330 = .ok (.aload_n 0, 1) := by decide +kernel
theorem dX6_declare_331 : decode cX6_declare 331 = .ok (.invokevirtual 145, 3) := by decide +kernel
theorem dX6_declare_334 : decode cX6_declare 334 = .ok (.aload_n 0, 1) := by decide +kernel
theorem dX6_declare_335 : decode cX6_declare 335 = .ok (.getfield 22, 3) := by decide +kernel
theorem dX6_declare_338 : decode cX6_declare 338 = .ok (.iload_n 3, 1) := by decide +kernel
theorem dX6_declare_339 : decode cX6_declare 339 = .ok (.iaload, 1) := by decide +kernel
theorem dX6_declare_340 : decode cX6_declare 340 = .ok (.iconst 1, 1) := by decide +kernel
theorem dX6_declare_341 : decode cX6_declare 341 = .ok (.if_icmp .ne 11, 3) := by decide +kernel
theorem dX6_declare_344 : decode cX6_declare 344 = .ok (.aload_n 0, 1) := by decide +kernel
theorem dX6_declare_345 : decode cX6_declare 345 = .ok (.iload_n 3, 1) := by decide +kernel
theorem dX6_declare_346 : decode cX6_declare 346 = .ok (.invokevirtual 148, 3) := by decide +kernel
theorem dX6_declare_349 : decode cX6_declare 349 = .ok (.goto 8, 3) := by decide +kernel
theorem dX6_declare_352 : decode cX6_declare 352 = .ok (.aload_n 0, 1) := by decide +kernel
theorem dX6_declare_353 : decode cX6_declare 353 = .ok (.iload_n 3, 1) := by decide +kernel
theorem dX6_declare_354 : decode cX6_declare 354 = .ok (.invokevirtual 152, 3) := by decide +kernel
theorem dX6_declare_357 : decode cX6_declare 357 = .ok (.iload_n 3, 1) := by decide +kernel
theorem dX6_declare_358 : decode cX6_declare 358 = .ok (.ireturn, 1) := by decide +kernel
def m_M_declare_314  (x3 : Int32) (t0 : Int32) (t1 : Int32) (v : Nat → Int32) (u : Nat → Nat → Int32) : Option ((Int32) × (Nat → Int32) × (Nat → Nat → Int32)) := zix t1 9 ((m_M_nothing (upd (upd v 3 ((v 3) + 1)) 23 0) (zau u 15 t1 t0)).bind (fun q34 => zix x3 9 ((if ((q34.2 5) x3.toNatClampNeg) = 1 then (m_M_storeText x3 q34.1 q34.2).bind (fun q38 => (some (x3, q34.1, q38))) else (m_M_storeNumber x3 q34.1 q34.2).bind (fun q37 => (some (x3, q34.1, q37)))))))
def m_M_declare_270  (x1 : Int32) (x3 : Int32) (v : Nat → Int32) (u : Nat → Nat → Int32) : Option ((Int32) × (Nat → Int32) × (Nat → Nat → Int32)) := zix 8 9 (zix x3 9 ((if x1 = 1 then zix 8 9 (m_M_declare_314  x3 (((((zau u 14 x3 ((u 14) (8 : Int32).toNatClampNeg)) 15) (8 : Int32).toNatClampNeg) / 2) + 1) x3 v (zau u 14 x3 ((u 14) (8 : Int32).toNatClampNeg))) else zix 8 9 (m_M_declare_314  x3 (((zau u 14 x3 ((u 14) (8 : Int32).toNatClampNeg)) 15) (8 : Int32).toNatClampNeg) x3 v (zau u 14 x3 ((u 14) (8 : Int32).toNatClampNeg))))))
def m_M_declare_231  (x1 : Int32) (x3 : Int32) (v : Nat → Int32) (u : Nat → Nat → Int32) : Option ((Int32) × (Nat → Int32) × (Nat → Nat → Int32)) := zix 8 9 (zix x3 9 (zix 8 9 (zix x3 9 (zix 8 9 (zix x3 9 (m_M_declare_270  x1 x3 v (zau (zau (zau u 11 x3 ((u 11) (8 : Int32).toNatClampNeg)) 12 x3 (((zau u 11 x3 ((u 11) (8 : Int32).toNatClampNeg)) 12) (8 : Int32).toNatClampNeg)) 13 x3 (((zau (zau u 11 x3 ((u 11) (8 : Int32).toNatClampNeg)) 12 x3 (((zau u 11 x3 ((u 11) (8 : Int32).toNatClampNeg)) 12) (8 : Int32).toNatClampNeg)) 13) (8 : Int32).toNatClampNeg))))))))
def m_M_declare_192  (x1 : Int32) (x3 : Int32) (v : Nat → Int32) (u : Nat → Nat → Int32) : Option ((Int32) × (Nat → Int32) × (Nat → Nat → Int32)) := zix 8 9 (zix x3 9 (zix 8 9 (zix x3 9 (zix 8 9 (zix x3 9 (m_M_declare_231  x1 x3 v (zau (zau (zau u 8 x3 ((u 8) (8 : Int32).toNatClampNeg)) 9 x3 (vp_nar .boolean (((zau u 8 x3 ((u 8) (8 : Int32).toNatClampNeg)) 9) (8 : Int32).toNatClampNeg))) 10 x3 (((zau (zau u 8 x3 ((u 8) (8 : Int32).toNatClampNeg)) 9 x3 (vp_nar .boolean (((zau u 8 x3 ((u 8) (8 : Int32).toNatClampNeg)) 9) (8 : Int32).toNatClampNeg))) 10) (8 : Int32).toNatClampNeg))))))))
def m_M_declare_103b  (rec : Int32 → Int32 → Int32 → (Nat → Int32) → (Nat → Nat → Int32) → Option ((Int32) × (Nat → Int32) × (Nat → Nat → Int32))) (x1 : Int32) (x3 : Int32) (x4 : Int32) (v : Nat → Int32) (u : Nat → Nat → Int32) : Option ((Int32) × (Nat → Int32) × (Nat → Nat → Int32)) := (if 24 ≤ x4 then zix 8 9 (zix x3 9 (zix x3 9 (zix 8 9 (zix x3 9 (m_M_declare_192  x1 x3 v (zau (zau (zau u 5 x3 ((u 5) (8 : Int32).toNatClampNeg)) 6 x3 x1) 7 x3 (((zau (zau u 5 x3 ((u 5) (8 : Int32).toNatClampNeg)) 6 x3 x1) 7) (8 : Int32).toNatClampNeg))))))) else (m_M_sym 8 x4 v u).bind (fun q40 => zix ((24 * x3) + x4) 216 (zix (192 + x4) 216 (zix ((24 * x3) + x4) 216 (rec x1 x3 (x4 + 1) v (zau (zau u 3 ((24 * x3) + x4) q40) 4 ((24 * x3) + x4) (((zau u 3 ((24 * x3) + x4) q40) 4) (192 + x4).toNatClampNeg)))))))
def m_M_declare_103  : Nat → Int32 → Int32 → Int32 → (Nat → Int32) → (Nat → Nat → Int32) → Option ((Int32) × (Nat → Int32) × (Nat → Nat → Int32))
  | 0 => fun _ _ _ _ _ => none
  | n + 1 => fun x1 x3 x4 v u => m_M_declare_103b  (m_M_declare_103  n) x1 x3 x4 v u
def m_M_declare_73  (x1 : Int32) (t0 : Int32) (t1 : Int32) (v : Nat → Int32) (u : Nat → Nat → Int32) : Option ((Int32) × (Nat → Int32) × (Nat → Nat → Int32)) := (m_M_fails t1 t0 0 v u).bind (fun q7 => (if q7.1 = 0 then zix 8 9 (zix (q7.2 3) 9 (m_M_declare_103  64 x1 (q7.2 3) 0 q7.2 (zau u 2 (q7.2 3) ((u 2) (8 : Int32).toNatClampNeg)))) else (some (0, q7.2, u))))
def m_M_declare_56  (x1 : Int32) (t0 : Int32) (v : Nat → Int32) (u : Nat → Nat → Int32) : Option ((Int32) × (Nat → Int32) × (Nat → Nat → Int32)) := (if t0 = 0 then m_M_declare_73  x1 1 0 (upd v 1 0) u else m_M_declare_73  x1 0 0 (upd v 1 0) u)
def m_M_declare_55  (x1 : Int32) (v : Nat → Int32) (u : Nat → Nat → Int32) : Option ((Int32) × (Nat → Int32) × (Nat → Nat → Int32)) := m_M_declare_56  x1 0 v u
def m_M_declare_51  (x1 : Int32) (v : Nat → Int32) (u : Nat → Nat → Int32) : Option ((Int32) × (Nat → Int32) × (Nat → Nat → Int32)) := m_M_declare_56  x1 1 v u
def m_M_declare_15  (x1 : Int32) (t0 : Int32) (v : Nat → Int32) (u : Nat → Nat → Int32) : Option ((Int32) × (Nat → Int32) × (Nat → Nat → Int32)) := (m_M_fails t0 0 0 v u).bind (fun q2 => (if q2.1 = 0 then (m_M_reads q2.2 u).bind (fun q4 => (if q4.1 = 0 then m_M_declare_55  x1 q2.2 q4.2 else (if x1 = 0 then m_M_declare_51  x1 q2.2 q4.2 else (if x1 = 1 then zix 8 9 ((if ((q4.2 5) (8 : Int32).toNatClampNeg) = 0 then m_M_declare_51  x1 q2.2 q4.2 else m_M_declare_55  x1 q2.2 q4.2)) else m_M_declare_55  x1 q2.2 q4.2)))) else (some (0, q2.2, u))))
def m_M_declare (a0 : Int32) (v : Nat → Int32) (u : Nat → Nat → Int32)  : Option ((Int32) × (Nat → Int32) × (Nat → Nat → Int32)) := (if (v 3) = 8 then m_M_declare_15  a0 1 v u else m_M_declare_15  a0 0 v u)
section
variable {p : Program} {l : Launch} {e : Env} {s : State} {m : MethodId} {args : Array Value} {below : List Frame} {meth : Method} {c : Code} {D : va_G} {w0 : va_W} {ad : Nat → Nat} {ca : Nat → ClassId}
set_option maxRecDepth 100000 in
set_option maxHeartbeats 4000000 in
theorem b_M_declare_314 (G : zG p s m args meth c cX6_declare RX6 5 (some .int)) (hK : va_K D vwCl (wM_t ca) s) (hX : zN (va_A w0 s.heap.size) s) {res : (Int32) × (Nat → Int32) × (Nat → Nat → Int32)} : ∀ (x3 : Int32) (t0 : Int32) (t1 : Int32) (v : Nat → Int32) (u : Nat → Nat → Int32), m_M_declare_314  x3 t0 t1 v u = some res → zB p l e (zR 5 130) s m args below meth c D vwCl (va_A w0 s.heap.size) (MQ below (zQi D vwCl w0 (wM ad ca res.2.1 res.2.2) s.heap.size res.1) args s 0 0 (va_A w0 s.heap.size)) 5 (wM ad ca v u) [(0, .ref (ad 0)), (3, .int x3)] 314 [.int t0, .int t1, .ref (ad 15)] := by
  intro x3 t0 t1 v u hm H locs ls hP hD hS hl
  unfold m_M_declare_314 at hm
  have G0 := G
  obtain ⟨hx, hb, hr, hml, hown, hw, hlk⟩ := G
  have hA : ∀ q, s.heap.size ≤ q → va_A w0 s.heap.size q := fun q h => Or.inr h
  obtain ⟨hi33, hm⟩ := zix_s hm
  refine va_iast (i := t1) (x := t0) (f := (u 15)) (n := 9) hx hb hK hP hD hS 15 14 rfl rfl hi33 dX6_declare_314 (fun H locs hP hD hS => ?_)
  have hP : va_P D vwCl (wM ad ca v (zau u 15 t1 t0)) H := hP
  have hD : va_D _ (wM ad ca v (zau u 15 t1 t0)) := hD
  refine lv_aload_n hx hb dX6_declare_315 rfl (lv_at hl 0 rfl) ?_
  refine lv_dup hx hb dX6_declare_316 rfl ?_
  refine va_get (D := D) (ci := 5) (v := .int (v 3)) (C := RX6) (T := TX6) (N := 24) hx hb hw zinX6 hown hK hP 0 rfl rfl 3 (by decide) (hw _ zw1) (fun _ h9 => h9) rfl dX6_declare_317 ?_
  refine lv_iconst (v := 1) hx hb dX6_declare_320 (by decide) ?_
  refine lv_iadd hx hb dX6_declare_321 ?_
  refine va_put (D := D) (ci := 5) (v := .int ((v 3) + 1)) (ty := .int) (C := RX6) (T := TX6) (N := 24) hx hb hw zinX6 tyX6 tyX6_ok nmX6 hown hK hP hD hS 0 rfl rfl 3 (by decide) (hw _ zw1) (fun _ h9 => h9) rfl (by decide +kernel) rfl rfl (Nat.le_of_ble_eq_true rfl) dX6_declare_322 (fun H locs hP hD hS => ?_)
  have hP : va_P D vwCl (wM ad ca (upd v 3 ((v 3) + 1)) (zau u 15 t1 t0)) H := hP
  have hD : va_D _ (wM ad ca (upd v 3 ((v 3) + 1)) (zau u 15 t1 t0)) := hD
  refine lv_aload_n hx hb dX6_declare_325 rfl (lv_at hl 0 rfl) ?_
  refine lv_iconst (v := 0) hx hb dX6_declare_326 (by decide) ?_
  refine va_put (D := D) (ci := 5) (v := .int 0) (ty := .int) (C := RX6) (T := TX6) (N := 24) hx hb hw zinX6 tyX6 tyX6_ok nmX6 hown hK hP hD hS 0 rfl rfl 23 (by decide) (hw _ zw121) (fun _ h9 => h9) rfl (by decide +kernel) rfl rfl (Nat.le_of_ble_eq_true rfl) dX6_declare_327 (fun H locs hP hD hS => ?_)
  have hP : va_P D vwCl (wM ad ca (upd (upd v 3 ((v 3) + 1)) 23 0) (zau u 15 t1 t0)) H := hP
  have hD : va_D _ (wM ad ca (upd (upd v 3 ((v 3) + 1)) 23 0) (zau u 15 t1 t0)) := hD
  refine lv_aload_n hx hb dX6_declare_330 rfl (lv_at hl 0 rfl) ?_
  obtain ⟨q34, hq34, hm⟩ := zbind hm
  refine zbWv (va_runV (As := []) (rest := []) ⟨hx, hb, hml, hown, hw⟩ (k_M_nothing l D ad ca _ (upd (upd v 3 ((v 3) + 1)) 23 0) (zau u 15 t1 t0)  q34 hq34) (zcV (C := RX6) 0 hw (zgood zw130) rfl rfl rfl zw7 zw132 zw131 zw133 hdX6_nothing ⟨Nat.le_of_ble_eq_true rfl, Nat.le_of_ble_eq_true rfl⟩) (zpreV (zpre zN_ok trivial hS (zfree hD hS hA) hP hK hD) (va_recv hK hP rfl (q0 := 0) rfl)) rfl rfl hl.1 rfl (lv_room (Nat.le_of_ble_eq_true rfl)) dX6_declare_331 ⟨Nat.zero_le _, Nat.zero_le _⟩) hS (zfree hD hS hA) (fun H locs hP hD hS => ?_)
  have hP : va_P D vwCl (wM ad ca q34.1 q34.2) H := hP
  have hD : va_D _ (wM ad ca q34.1 q34.2) := hD
  refine lv_aload_n hx hb dX6_declare_334 rfl (lv_at hl 0 rfl) ?_
  refine va_get (D := D) (ci := 5) (v := .ref (ad 5)) (C := RX6) (T := TX6) (N := 24) hx hb hw zinX6 hown hK hP 0 rfl rfl 7 (by decide) (hw _ zw46) (fun _ h9 => h9) rfl dX6_declare_335 ?_
  refine lv_iload_n hx hb dX6_declare_338 rfl (lv_at hl 1 rfl) ?_
  obtain ⟨hi35, hm⟩ := zix_s hm
  refine va_iald (i := x3) (f := (q34.2 5)) (n := 9) hx hb hK hP 5 4 rfl rfl hi35 dX6_declare_339 ?_
  refine lv_iconst (v := 1) hx hb dX6_declare_340 (by decide) ?_
  refine lv_icmp_ne (tgt := 352) hx hb dX6_declare_341 rfl (fun cd36 => ?_) (fun cd36 => ?_)
  · replace hm := zf cd36 hm
    refine lv_aload_n hx hb dX6_declare_352 rfl (lv_at hl 0 rfl) ?_
    refine lv_iload_n hx hb dX6_declare_353 rfl (lv_at hl 1 rfl) ?_
    obtain ⟨q37, hq37, hm⟩ := zbind hm
    refine zbWv (va_runV (As := [.int x3]) (rest := []) ⟨hx, hb, hml, hown, hw⟩ (k_M_storeNumber l D ad ca _ x3 q34.1 q34.2  q37 hq37) (zcV (C := RX6) 1 hw (zgood zw134) rfl rfl rfl zw7 zw136 zw135 zw137 hdX6_storeNumber ⟨Nat.le_of_ble_eq_true rfl, Nat.le_of_ble_eq_true rfl⟩) (zpreV (zpre zN_ok trivial hS (zfree hD hS hA) hP hK hD) (va_recv hK hP rfl (q0 := 0) rfl)) rfl rfl hl.1 rfl (lv_room (Nat.le_of_ble_eq_true rfl)) dX6_declare_354 ⟨Nat.zero_le _, Nat.zero_le _⟩) hS (zfree hD hS hA) (fun H locs hP hD hS => ?_)
    have hP : va_P D vwCl (wM ad ca q34.1 q37) H := hP
    have hD : va_D _ (wM ad ca q34.1 q37) := hD
    refine lv_iload_n hx hb dX6_declare_357 rfl (lv_at hl 1 rfl) ?_
    cases hm
    exact zreti hx hb hr hlk hP hD hS dX6_declare_358
  · replace hm := zt cd36 hm
    refine lv_aload_n hx hb dX6_declare_344 rfl (lv_at hl 0 rfl) ?_
    refine lv_iload_n hx hb dX6_declare_345 rfl (lv_at hl 1 rfl) ?_
    obtain ⟨q38, hq38, hm⟩ := zbind hm
    refine zbWv (va_runV (As := [.int x3]) (rest := []) ⟨hx, hb, hml, hown, hw⟩ (k_M_storeText l D ad ca _ x3 q34.1 q34.2  q38 hq38) (zcV (C := RX6) 1 hw (zgood zw138) rfl rfl rfl zw7 zw140 zw139 zw141 hdX6_storeText ⟨Nat.le_of_ble_eq_true rfl, Nat.le_of_ble_eq_true rfl⟩) (zpreV (zpre zN_ok trivial hS (zfree hD hS hA) hP hK hD) (va_recv hK hP rfl (q0 := 0) rfl)) rfl rfl hl.1 rfl (lv_room (Nat.le_of_ble_eq_true rfl)) dX6_declare_346 ⟨Nat.zero_le _, Nat.zero_le _⟩) hS (zfree hD hS hA) (fun H locs hP hD hS => ?_)
    have hP : va_P D vwCl (wM ad ca q34.1 q38) H := hP
    have hD : va_D _ (wM ad ca q34.1 q38) := hD
    refine lv_goto (tgt := 357) hx hb dX6_declare_349 rfl ?_
    refine lv_iload_n hx hb dX6_declare_357 rfl (lv_at hl 1 rfl) ?_
    cases hm
    exact zreti hx hb hr hlk hP hD hS dX6_declare_358
set_option maxRecDepth 100000 in
set_option maxHeartbeats 4000000 in
theorem b_M_declare_270 (G : zG p s m args meth c cX6_declare RX6 5 (some .int)) (hK : va_K D vwCl (wM_t ca) s) (hX : zN (va_A w0 s.heap.size) s) {res : (Int32) × (Nat → Int32) × (Nat → Nat → Int32)} : ∀ (x1 : Int32) (x3 : Int32) (v : Nat → Int32) (u : Nat → Nat → Int32), m_M_declare_270  x1 x3 v u = some res → zB p l e (zR 5 130) s m args below meth c D vwCl (va_A w0 s.heap.size) (MQ below (zQi D vwCl w0 (wM ad ca res.2.1 res.2.2) s.heap.size res.1) args s 0 0 (va_A w0 s.heap.size)) 5 (wM ad ca v u) [(0, .ref (ad 0)), (1, .int x1), (3, .int x3)] 270 [] := by
  intro x1 x3 v u hm H locs ls hP hD hS hl
  unfold m_M_declare_270 at hm
  have G0 := G
  obtain ⟨hx, hb, hr, hml, hown, hw, hlk⟩ := G
  have hA : ∀ q, s.heap.size ≤ q → va_A w0 s.heap.size q := fun q h => Or.inr h
  refine lv_aload_n hx hb dX6_declare_270 rfl (lv_at hl 0 rfl) ?_
  refine va_get (D := D) (ci := 5) (v := .ref (ad 14)) (C := RX6) (T := TX6) (N := 24) hx hb hw zinX6 hown hK hP 0 rfl rfl 16 (by decide) (hw _ zw52) (fun _ h9 => h9) rfl dX6_declare_271 ?_
  refine lv_iload_n hx hb dX6_declare_274 rfl (lv_at hl 2 rfl) ?_
  refine lv_aload_n hx hb dX6_declare_275 rfl (lv_at hl 0 rfl) ?_
  refine va_get (D := D) (ci := 5) (v := .ref (ad 14)) (C := RX6) (T := TX6) (N := 24) hx hb hw zinX6 hown hK hP 0 rfl rfl 16 (by decide) (hw _ zw52) (fun _ h9 => h9) rfl dX6_declare_276 ?_
  refine lv_bipush (v := 8) hx hb dX6_declare_279 (by decide) ?_
  obtain ⟨hi29, hm⟩ := zix_s hm
  refine va_iald (i := 8) (f := (u 14)) (n := 9) hx hb hK hP 14 13 rfl rfl hi29 dX6_declare_281 ?_
  obtain ⟨hi30, hm⟩ := zix_s hm
  refine va_iast (i := x3) (x := ((u 14) (8 : Int32).toNatClampNeg)) (f := (u 14)) (n := 9) hx hb hK hP hD hS 14 13 rfl rfl hi30 dX6_declare_282 (fun H locs hP hD hS => ?_)
  have hP : va_P D vwCl (wM ad ca v (zau u 14 x3 ((u 14) (8 : Int32).toNatClampNeg))) H := hP
  have hD : va_D _ (wM ad ca v (zau u 14 x3 ((u 14) (8 : Int32).toNatClampNeg))) := hD
  refine lv_aload_n hx hb dX6_declare_283 rfl (lv_at hl 0 rfl) ?_
  refine va_get (D := D) (ci := 5) (v := .ref (ad 15)) (C := RX6) (T := TX6) (N := 24) hx hb hw zinX6 hown hK hP 0 rfl rfl 17 (by decide) (hw _ zw50) (fun _ h9 => h9) rfl dX6_declare_284 ?_
  refine lv_iload_n hx hb dX6_declare_287 rfl (lv_at hl 2 rfl) ?_
  refine lv_iload_n hx hb dX6_declare_288 rfl (lv_at hl 1 rfl) ?_
  refine lv_iconst (v := 1) hx hb dX6_declare_289 (by decide) ?_
  refine lv_icmp_ne (tgt := 307) hx hb dX6_declare_290 rfl (fun cd31 => ?_) (fun cd31 => ?_)
  · replace hm := zf cd31 hm
    refine lv_aload_n hx hb dX6_declare_307 rfl (lv_at hl 0 rfl) ?_
    refine va_get (D := D) (ci := 5) (v := .ref (ad 15)) (C := RX6) (T := TX6) (N := 24) hx hb hw zinX6 hown hK hP 0 rfl rfl 17 (by decide) (hw _ zw50) (fun _ h9 => h9) rfl dX6_declare_308 ?_
    refine lv_bipush (v := 8) hx hb dX6_declare_311 (by decide) ?_
    obtain ⟨hi32, hm⟩ := zix_s hm
    refine va_iald (i := 8) (f := ((zau u 14 x3 ((u 14) (8 : Int32).toNatClampNeg)) 15)) (n := 9) hx hb hK hP 15 14 rfl rfl hi32 dX6_declare_313 ?_
    exact b_M_declare_314 G0 hK hX _ _ _ _ _ hm H _ _ hP hD hS (lv_sub hl [0, 2] rfl)
  · replace hm := zt cd31 hm
    refine lv_aload_n hx hb dX6_declare_293 rfl (lv_at hl 0 rfl) ?_
    refine va_get (D := D) (ci := 5) (v := .ref (ad 15)) (C := RX6) (T := TX6) (N := 24) hx hb hw zinX6 hown hK hP 0 rfl rfl 17 (by decide) (hw _ zw50) (fun _ h9 => h9) rfl dX6_declare_294 ?_
    refine lv_bipush (v := 8) hx hb dX6_declare_297 (by decide) ?_
    obtain ⟨hi39, hm⟩ := zix_s hm
    refine va_iald (i := 8) (f := ((zau u 14 x3 ((u 14) (8 : Int32).toNatClampNeg)) 15)) (n := 9) hx hb hK hP 15 14 rfl rfl hi39 dX6_declare_299 ?_
    refine lv_iconst (v := 2) hx hb dX6_declare_300 (by decide) ?_
    refine lv_idiv hx hb dX6_declare_301 (by decide) ?_
    refine lv_iconst (v := 1) hx hb dX6_declare_302 (by decide) ?_
    refine lv_iadd hx hb dX6_declare_303 ?_
    refine lv_goto (tgt := 314) hx hb dX6_declare_304 rfl ?_
    exact b_M_declare_314 G0 hK hX _ _ _ _ _ hm H _ _ hP hD hS (lv_sub hl [0, 2] rfl)
set_option maxRecDepth 100000 in
set_option maxHeartbeats 4000000 in
theorem b_M_declare_231 (G : zG p s m args meth c cX6_declare RX6 5 (some .int)) (hK : va_K D vwCl (wM_t ca) s) (hX : zN (va_A w0 s.heap.size) s) {res : (Int32) × (Nat → Int32) × (Nat → Nat → Int32)} : ∀ (x1 : Int32) (x3 : Int32) (v : Nat → Int32) (u : Nat → Nat → Int32), m_M_declare_231  x1 x3 v u = some res → zB p l e (zR 5 130) s m args below meth c D vwCl (va_A w0 s.heap.size) (MQ below (zQi D vwCl w0 (wM ad ca res.2.1 res.2.2) s.heap.size res.1) args s 0 0 (va_A w0 s.heap.size)) 5 (wM ad ca v u) [(0, .ref (ad 0)), (1, .int x1), (3, .int x3)] 231 [] := by
  intro x1 x3 v u hm H locs ls hP hD hS hl
  unfold m_M_declare_231 at hm
  have G0 := G
  obtain ⟨hx, hb, hr, hml, hown, hw, hlk⟩ := G
  have hA : ∀ q, s.heap.size ≤ q → va_A w0 s.heap.size q := fun q h => Or.inr h
  refine lv_aload_n hx hb dX6_declare_231 rfl (lv_at hl 0 rfl) ?_
  refine va_get (D := D) (ci := 5) (v := .ref (ad 11)) (C := RX6) (T := TX6) (N := 24) hx hb hw zinX6 hown hK hP 0 rfl rfl 13 (by decide) (hw _ zw51) (fun _ h9 => h9) rfl dX6_declare_232 ?_
  refine lv_iload_n hx hb dX6_declare_235 rfl (lv_at hl 2 rfl) ?_
  refine lv_aload_n hx hb dX6_declare_236 rfl (lv_at hl 0 rfl) ?_
  refine va_get (D := D) (ci := 5) (v := .ref (ad 11)) (C := RX6) (T := TX6) (N := 24) hx hb hw zinX6 hown hK hP 0 rfl rfl 13 (by decide) (hw _ zw51) (fun _ h9 => h9) rfl dX6_declare_237 ?_
  refine lv_bipush (v := 8) hx hb dX6_declare_240 (by decide) ?_
  obtain ⟨hi23, hm⟩ := zix_s hm
  refine va_iald (i := 8) (f := (u 11)) (n := 9) hx hb hK hP 11 10 rfl rfl hi23 dX6_declare_242 ?_
  obtain ⟨hi24, hm⟩ := zix_s hm
  refine va_iast (i := x3) (x := ((u 11) (8 : Int32).toNatClampNeg)) (f := (u 11)) (n := 9) hx hb hK hP hD hS 11 10 rfl rfl hi24 dX6_declare_243 (fun H locs hP hD hS => ?_)
  have hP : va_P D vwCl (wM ad ca v (zau u 11 x3 ((u 11) (8 : Int32).toNatClampNeg))) H := hP
  have hD : va_D _ (wM ad ca v (zau u 11 x3 ((u 11) (8 : Int32).toNatClampNeg))) := hD
  refine lv_aload_n hx hb dX6_declare_244 rfl (lv_at hl 0 rfl) ?_
  refine va_get (D := D) (ci := 5) (v := .ref (ad 12)) (C := RX6) (T := TX6) (N := 24) hx hb hw zinX6 hown hK hP 0 rfl rfl 14 (by decide) (hw _ zw53) (fun _ h9 => h9) rfl dX6_declare_245 ?_
  refine lv_iload_n hx hb dX6_declare_248 rfl (lv_at hl 2 rfl) ?_
  refine lv_aload_n hx hb dX6_declare_249 rfl (lv_at hl 0 rfl) ?_
  refine va_get (D := D) (ci := 5) (v := .ref (ad 12)) (C := RX6) (T := TX6) (N := 24) hx hb hw zinX6 hown hK hP 0 rfl rfl 14 (by decide) (hw _ zw53) (fun _ h9 => h9) rfl dX6_declare_250 ?_
  refine lv_bipush (v := 8) hx hb dX6_declare_253 (by decide) ?_
  obtain ⟨hi25, hm⟩ := zix_s hm
  refine va_iald (i := 8) (f := ((zau u 11 x3 ((u 11) (8 : Int32).toNatClampNeg)) 12)) (n := 9) hx hb hK hP 12 11 rfl rfl hi25 dX6_declare_255 ?_
  obtain ⟨hi26, hm⟩ := zix_s hm
  refine va_iast (i := x3) (x := (((zau u 11 x3 ((u 11) (8 : Int32).toNatClampNeg)) 12) (8 : Int32).toNatClampNeg)) (f := ((zau u 11 x3 ((u 11) (8 : Int32).toNatClampNeg)) 12)) (n := 9) hx hb hK hP hD hS 12 11 rfl rfl hi26 dX6_declare_256 (fun H locs hP hD hS => ?_)
  have hP : va_P D vwCl (wM ad ca v (zau (zau u 11 x3 ((u 11) (8 : Int32).toNatClampNeg)) 12 x3 (((zau u 11 x3 ((u 11) (8 : Int32).toNatClampNeg)) 12) (8 : Int32).toNatClampNeg))) H := hP
  have hD : va_D _ (wM ad ca v (zau (zau u 11 x3 ((u 11) (8 : Int32).toNatClampNeg)) 12 x3 (((zau u 11 x3 ((u 11) (8 : Int32).toNatClampNeg)) 12) (8 : Int32).toNatClampNeg))) := hD
  refine lv_aload_n hx hb dX6_declare_257 rfl (lv_at hl 0 rfl) ?_
  refine va_get (D := D) (ci := 5) (v := .ref (ad 13)) (C := RX6) (T := TX6) (N := 24) hx hb hw zinX6 hown hK hP 0 rfl rfl 15 (by decide) (hw _ zw54) (fun _ h9 => h9) rfl dX6_declare_258 ?_
  refine lv_iload_n hx hb dX6_declare_261 rfl (lv_at hl 2 rfl) ?_
  refine lv_aload_n hx hb dX6_declare_262 rfl (lv_at hl 0 rfl) ?_
  refine va_get (D := D) (ci := 5) (v := .ref (ad 13)) (C := RX6) (T := TX6) (N := 24) hx hb hw zinX6 hown hK hP 0 rfl rfl 15 (by decide) (hw _ zw54) (fun _ h9 => h9) rfl dX6_declare_263 ?_
  refine lv_bipush (v := 8) hx hb dX6_declare_266 (by decide) ?_
  obtain ⟨hi27, hm⟩ := zix_s hm
  refine va_iald (i := 8) (f := ((zau (zau u 11 x3 ((u 11) (8 : Int32).toNatClampNeg)) 12 x3 (((zau u 11 x3 ((u 11) (8 : Int32).toNatClampNeg)) 12) (8 : Int32).toNatClampNeg)) 13)) (n := 9) hx hb hK hP 13 12 rfl rfl hi27 dX6_declare_268 ?_
  obtain ⟨hi28, hm⟩ := zix_s hm
  refine va_iast (i := x3) (x := (((zau (zau u 11 x3 ((u 11) (8 : Int32).toNatClampNeg)) 12 x3 (((zau u 11 x3 ((u 11) (8 : Int32).toNatClampNeg)) 12) (8 : Int32).toNatClampNeg)) 13) (8 : Int32).toNatClampNeg)) (f := ((zau (zau u 11 x3 ((u 11) (8 : Int32).toNatClampNeg)) 12 x3 (((zau u 11 x3 ((u 11) (8 : Int32).toNatClampNeg)) 12) (8 : Int32).toNatClampNeg)) 13)) (n := 9) hx hb hK hP hD hS 13 12 rfl rfl hi28 dX6_declare_269 (fun H locs hP hD hS => ?_)
  have hP : va_P D vwCl (wM ad ca v (zau (zau (zau u 11 x3 ((u 11) (8 : Int32).toNatClampNeg)) 12 x3 (((zau u 11 x3 ((u 11) (8 : Int32).toNatClampNeg)) 12) (8 : Int32).toNatClampNeg)) 13 x3 (((zau (zau u 11 x3 ((u 11) (8 : Int32).toNatClampNeg)) 12 x3 (((zau u 11 x3 ((u 11) (8 : Int32).toNatClampNeg)) 12) (8 : Int32).toNatClampNeg)) 13) (8 : Int32).toNatClampNeg))) H := hP
  have hD : va_D _ (wM ad ca v (zau (zau (zau u 11 x3 ((u 11) (8 : Int32).toNatClampNeg)) 12 x3 (((zau u 11 x3 ((u 11) (8 : Int32).toNatClampNeg)) 12) (8 : Int32).toNatClampNeg)) 13 x3 (((zau (zau u 11 x3 ((u 11) (8 : Int32).toNatClampNeg)) 12 x3 (((zau u 11 x3 ((u 11) (8 : Int32).toNatClampNeg)) 12) (8 : Int32).toNatClampNeg)) 13) (8 : Int32).toNatClampNeg))) := hD
  exact b_M_declare_270 G0 hK hX _ _ _ _ hm H _ _ hP hD hS hl
set_option maxRecDepth 100000 in
set_option maxHeartbeats 4000000 in
theorem b_M_declare_192 (G : zG p s m args meth c cX6_declare RX6 5 (some .int)) (hK : va_K D vwCl (wM_t ca) s) (hX : zN (va_A w0 s.heap.size) s) {res : (Int32) × (Nat → Int32) × (Nat → Nat → Int32)} : ∀ (x1 : Int32) (x3 : Int32) (v : Nat → Int32) (u : Nat → Nat → Int32), m_M_declare_192  x1 x3 v u = some res → zB p l e (zR 5 130) s m args below meth c D vwCl (va_A w0 s.heap.size) (MQ below (zQi D vwCl w0 (wM ad ca res.2.1 res.2.2) s.heap.size res.1) args s 0 0 (va_A w0 s.heap.size)) 5 (wM ad ca v u) [(0, .ref (ad 0)), (1, .int x1), (3, .int x3)] 192 [] := by
  intro x1 x3 v u hm H locs ls hP hD hS hl
  unfold m_M_declare_192 at hm
  have G0 := G
  obtain ⟨hx, hb, hr, hml, hown, hw, hlk⟩ := G
  have hA : ∀ q, s.heap.size ≤ q → va_A w0 s.heap.size q := fun q h => Or.inr h
  refine lv_aload_n hx hb dX6_declare_192 rfl (lv_at hl 0 rfl) ?_
  refine va_get (D := D) (ci := 5) (v := .ref (ad 8)) (C := RX6) (T := TX6) (N := 24) hx hb hw zinX6 hown hK hP 0 rfl rfl 10 (by decide) (hw _ zw22) (fun _ h9 => h9) rfl dX6_declare_193 ?_
  refine lv_iload_n hx hb dX6_declare_196 rfl (lv_at hl 2 rfl) ?_
  refine lv_aload_n hx hb dX6_declare_197 rfl (lv_at hl 0 rfl) ?_
  refine va_get (D := D) (ci := 5) (v := .ref (ad 8)) (C := RX6) (T := TX6) (N := 24) hx hb hw zinX6 hown hK hP 0 rfl rfl 10 (by decide) (hw _ zw22) (fun _ h9 => h9) rfl dX6_declare_198 ?_
  refine lv_bipush (v := 8) hx hb dX6_declare_201 (by decide) ?_
  obtain ⟨hi17, hm⟩ := zix_s hm
  refine va_iald (i := 8) (f := (u 8)) (n := 9) hx hb hK hP 8 7 rfl rfl hi17 dX6_declare_203 ?_
  obtain ⟨hi18, hm⟩ := zix_s hm
  refine va_iast (i := x3) (x := ((u 8) (8 : Int32).toNatClampNeg)) (f := (u 8)) (n := 9) hx hb hK hP hD hS 8 7 rfl rfl hi18 dX6_declare_204 (fun H locs hP hD hS => ?_)
  have hP : va_P D vwCl (wM ad ca v (zau u 8 x3 ((u 8) (8 : Int32).toNatClampNeg))) H := hP
  have hD : va_D _ (wM ad ca v (zau u 8 x3 ((u 8) (8 : Int32).toNatClampNeg))) := hD
  refine lv_aload_n hx hb dX6_declare_205 rfl (lv_at hl 0 rfl) ?_
  refine va_get (D := D) (ci := 5) (v := .ref (ad 9)) (C := RX6) (T := TX6) (N := 24) hx hb hw zinX6 hown hK hP 0 rfl rfl 11 (by decide) (hw _ zw47) (fun _ h9 => h9) rfl dX6_declare_206 ?_
  refine lv_iload_n hx hb dX6_declare_209 rfl (lv_at hl 2 rfl) ?_
  refine lv_aload_n hx hb dX6_declare_210 rfl (lv_at hl 0 rfl) ?_
  refine va_get (D := D) (ci := 5) (v := .ref (ad 9)) (C := RX6) (T := TX6) (N := 24) hx hb hw zinX6 hown hK hP 0 rfl rfl 11 (by decide) (hw _ zw47) (fun _ h9 => h9) rfl dX6_declare_211 ?_
  refine lv_bipush (v := 8) hx hb dX6_declare_214 (by decide) ?_
  obtain ⟨hi19, hm⟩ := zix_s hm
  refine va_zald (i := 8) (f := ((zau u 8 x3 ((u 8) (8 : Int32).toNatClampNeg)) 9)) (n := 9) hx hb hK hP 9 8 rfl rfl hi19 dX6_declare_216 ?_
  obtain ⟨hi20, hm⟩ := zix_s hm
  refine va_zast (i := x3) (x := (((zau u 8 x3 ((u 8) (8 : Int32).toNatClampNeg)) 9) (8 : Int32).toNatClampNeg)) (f := ((zau u 8 x3 ((u 8) (8 : Int32).toNatClampNeg)) 9)) (n := 9) hx hb hK hP hD hS 9 8 rfl rfl hi20 dX6_declare_217 (fun H locs hP hD hS => ?_)
  have hP : va_P D vwCl (wM ad ca v (zau (zau u 8 x3 ((u 8) (8 : Int32).toNatClampNeg)) 9 x3 (vp_nar .boolean (((zau u 8 x3 ((u 8) (8 : Int32).toNatClampNeg)) 9) (8 : Int32).toNatClampNeg)))) H := hP
  have hD : va_D _ (wM ad ca v (zau (zau u 8 x3 ((u 8) (8 : Int32).toNatClampNeg)) 9 x3 (vp_nar .boolean (((zau u 8 x3 ((u 8) (8 : Int32).toNatClampNeg)) 9) (8 : Int32).toNatClampNeg)))) := hD
  refine lv_aload_n hx hb dX6_declare_218 rfl (lv_at hl 0 rfl) ?_
  refine va_get (D := D) (ci := 5) (v := .ref (ad 10)) (C := RX6) (T := TX6) (N := 24) hx hb hw zinX6 hown hK hP 0 rfl rfl 12 (by decide) (hw _ zw48) (fun _ h9 => h9) rfl dX6_declare_219 ?_
  refine lv_iload_n hx hb dX6_declare_222 rfl (lv_at hl 2 rfl) ?_
  refine lv_aload_n hx hb dX6_declare_223 rfl (lv_at hl 0 rfl) ?_
  refine va_get (D := D) (ci := 5) (v := .ref (ad 10)) (C := RX6) (T := TX6) (N := 24) hx hb hw zinX6 hown hK hP 0 rfl rfl 12 (by decide) (hw _ zw48) (fun _ h9 => h9) rfl dX6_declare_224 ?_
  refine lv_bipush (v := 8) hx hb dX6_declare_227 (by decide) ?_
  obtain ⟨hi21, hm⟩ := zix_s hm
  refine va_iald (i := 8) (f := ((zau (zau u 8 x3 ((u 8) (8 : Int32).toNatClampNeg)) 9 x3 (vp_nar .boolean (((zau u 8 x3 ((u 8) (8 : Int32).toNatClampNeg)) 9) (8 : Int32).toNatClampNeg))) 10)) (n := 9) hx hb hK hP 10 9 rfl rfl hi21 dX6_declare_229 ?_
  obtain ⟨hi22, hm⟩ := zix_s hm
  refine va_iast (i := x3) (x := (((zau (zau u 8 x3 ((u 8) (8 : Int32).toNatClampNeg)) 9 x3 (vp_nar .boolean (((zau u 8 x3 ((u 8) (8 : Int32).toNatClampNeg)) 9) (8 : Int32).toNatClampNeg))) 10) (8 : Int32).toNatClampNeg)) (f := ((zau (zau u 8 x3 ((u 8) (8 : Int32).toNatClampNeg)) 9 x3 (vp_nar .boolean (((zau u 8 x3 ((u 8) (8 : Int32).toNatClampNeg)) 9) (8 : Int32).toNatClampNeg))) 10)) (n := 9) hx hb hK hP hD hS 10 9 rfl rfl hi22 dX6_declare_230 (fun H locs hP hD hS => ?_)
  have hP : va_P D vwCl (wM ad ca v (zau (zau (zau u 8 x3 ((u 8) (8 : Int32).toNatClampNeg)) 9 x3 (vp_nar .boolean (((zau u 8 x3 ((u 8) (8 : Int32).toNatClampNeg)) 9) (8 : Int32).toNatClampNeg))) 10 x3 (((zau (zau u 8 x3 ((u 8) (8 : Int32).toNatClampNeg)) 9 x3 (vp_nar .boolean (((zau u 8 x3 ((u 8) (8 : Int32).toNatClampNeg)) 9) (8 : Int32).toNatClampNeg))) 10) (8 : Int32).toNatClampNeg))) H := hP
  have hD : va_D _ (wM ad ca v (zau (zau (zau u 8 x3 ((u 8) (8 : Int32).toNatClampNeg)) 9 x3 (vp_nar .boolean (((zau u 8 x3 ((u 8) (8 : Int32).toNatClampNeg)) 9) (8 : Int32).toNatClampNeg))) 10 x3 (((zau (zau u 8 x3 ((u 8) (8 : Int32).toNatClampNeg)) 9 x3 (vp_nar .boolean (((zau u 8 x3 ((u 8) (8 : Int32).toNatClampNeg)) 9) (8 : Int32).toNatClampNeg))) 10) (8 : Int32).toNatClampNeg))) := hD
  exact b_M_declare_231 G0 hK hX _ _ _ _ hm H _ _ hP hD hS hl
set_option maxRecDepth 100000 in
set_option maxHeartbeats 4000000 in
theorem b_M_declare_103 (G : zG p s m args meth c cX6_declare RX6 5 (some .int)) (hK : va_K D vwCl (wM_t ca) s) (hX : zN (va_A w0 s.heap.size) s) {res : (Int32) × (Nat → Int32) × (Nat → Nat → Int32)} : ∀ n : Nat, ∀ (x1 : Int32) (x3 : Int32) (x4 : Int32) (v : Nat → Int32) (u : Nat → Nat → Int32), m_M_declare_103  n x1 x3 x4 v u = some res → zB p l e (zR 5 130) s m args below meth c D vwCl (va_A w0 s.heap.size) (MQ below (zQi D vwCl w0 (wM ad ca res.2.1 res.2.2) s.heap.size res.1) args s 0 0 (va_A w0 s.heap.size)) 5 (wM ad ca v u) [(0, .ref (ad 0)), (1, .int x1), (3, .int x3), (4, .int x4)] 103 [] := by
  intro n
  induction n with
  | zero => intro x1 x3 x4 v u hm; cases hm
  | succ n ih =>
  have hrec := ih
  intro x1 x3 x4 v u hm H locs ls hP hD hS hl
  replace hm : m_M_declare_103b  (m_M_declare_103  n) x1 x3 x4 v u = some res := hm
  generalize m_M_declare_103  n = rec at hm hrec
  unfold m_M_declare_103b at hm
  clear ih
  have G0 := G
  obtain ⟨hx, hb, hr, hml, hown, hw, hlk⟩ := G
  have hA : ∀ q, s.heap.size ≤ q → va_A w0 s.heap.size q := fun q h => Or.inr h
  refine lv_iload hx hb dX6_declare_103 (lv_at hl 3 rfl) ?_
  refine lv_bipush (v := 24) hx hb dX6_declare_105 (by decide) ?_
  refine lv_icmp_ge (tgt := 159) hx hb dX6_declare_107 rfl (fun cd11 => ?_) (fun cd11 => ?_)
  · replace hm := zt cd11 hm
    refine lv_aload_n hx hb dX6_declare_159 rfl (lv_at hl 0 rfl) ?_
    refine va_get (D := D) (ci := 5) (v := .ref (ad 5)) (C := RX6) (T := TX6) (N := 24) hx hb hw zinX6 hown hK hP 0 rfl rfl 7 (by decide) (hw _ zw46) (fun _ h9 => h9) rfl dX6_declare_160 ?_
    refine lv_iload_n hx hb dX6_declare_163 rfl (lv_at hl 2 rfl) ?_
    refine lv_aload_n hx hb dX6_declare_164 rfl (lv_at hl 0 rfl) ?_
    refine va_get (D := D) (ci := 5) (v := .ref (ad 5)) (C := RX6) (T := TX6) (N := 24) hx hb hw zinX6 hown hK hP 0 rfl rfl 7 (by decide) (hw _ zw46) (fun _ h9 => h9) rfl dX6_declare_165 ?_
    refine lv_bipush (v := 8) hx hb dX6_declare_168 (by decide) ?_
    obtain ⟨hi12, hm⟩ := zix_s hm
    refine va_iald (i := 8) (f := (u 5)) (n := 9) hx hb hK hP 5 4 rfl rfl hi12 dX6_declare_170 ?_
    obtain ⟨hi13, hm⟩ := zix_s hm
    refine va_iast (i := x3) (x := ((u 5) (8 : Int32).toNatClampNeg)) (f := (u 5)) (n := 9) hx hb hK hP hD hS 5 4 rfl rfl hi13 dX6_declare_171 (fun H locs hP hD hS => ?_)
    have hP : va_P D vwCl (wM ad ca v (zau u 5 x3 ((u 5) (8 : Int32).toNatClampNeg))) H := hP
    have hD : va_D _ (wM ad ca v (zau u 5 x3 ((u 5) (8 : Int32).toNatClampNeg))) := hD
    refine lv_aload_n hx hb dX6_declare_172 rfl (lv_at hl 0 rfl) ?_
    refine va_get (D := D) (ci := 5) (v := .ref (ad 6)) (C := RX6) (T := TX6) (N := 24) hx hb hw zinX6 hown hK hP 0 rfl rfl 8 (by decide) (hw _ zw115) (fun _ h9 => h9) rfl dX6_declare_173 ?_
    refine lv_iload_n hx hb dX6_declare_176 rfl (lv_at hl 2 rfl) ?_
    refine lv_iload_n hx hb dX6_declare_177 rfl (lv_at hl 1 rfl) ?_
    obtain ⟨hi14, hm⟩ := zix_s hm
    refine va_iast (i := x3) (x := x1) (f := ((zau u 5 x3 ((u 5) (8 : Int32).toNatClampNeg)) 6)) (n := 9) hx hb hK hP hD hS 6 5 rfl rfl hi14 dX6_declare_178 (fun H locs hP hD hS => ?_)
    have hP : va_P D vwCl (wM ad ca v (zau (zau u 5 x3 ((u 5) (8 : Int32).toNatClampNeg)) 6 x3 x1)) H := hP
    have hD : va_D _ (wM ad ca v (zau (zau u 5 x3 ((u 5) (8 : Int32).toNatClampNeg)) 6 x3 x1)) := hD
    refine lv_aload_n hx hb dX6_declare_179 rfl (lv_at hl 0 rfl) ?_
    refine va_get (D := D) (ci := 5) (v := .ref (ad 7)) (C := RX6) (T := TX6) (N := 24) hx hb hw zinX6 hown hK hP 0 rfl rfl 9 (by decide) (hw _ zw49) (fun _ h9 => h9) rfl dX6_declare_180 ?_
    refine lv_iload_n hx hb dX6_declare_183 rfl (lv_at hl 2 rfl) ?_
    refine lv_aload_n hx hb dX6_declare_184 rfl (lv_at hl 0 rfl) ?_
    refine va_get (D := D) (ci := 5) (v := .ref (ad 7)) (C := RX6) (T := TX6) (N := 24) hx hb hw zinX6 hown hK hP 0 rfl rfl 9 (by decide) (hw _ zw49) (fun _ h9 => h9) rfl dX6_declare_185 ?_
    refine lv_bipush (v := 8) hx hb dX6_declare_188 (by decide) ?_
    obtain ⟨hi15, hm⟩ := zix_s hm
    refine va_iald (i := 8) (f := ((zau (zau u 5 x3 ((u 5) (8 : Int32).toNatClampNeg)) 6 x3 x1) 7)) (n := 9) hx hb hK hP 7 6 rfl rfl hi15 dX6_declare_190 ?_
    obtain ⟨hi16, hm⟩ := zix_s hm
    refine va_iast (i := x3) (x := (((zau (zau u 5 x3 ((u 5) (8 : Int32).toNatClampNeg)) 6 x3 x1) 7) (8 : Int32).toNatClampNeg)) (f := ((zau (zau u 5 x3 ((u 5) (8 : Int32).toNatClampNeg)) 6 x3 x1) 7)) (n := 9) hx hb hK hP hD hS 7 6 rfl rfl hi16 dX6_declare_191 (fun H locs hP hD hS => ?_)
    have hP : va_P D vwCl (wM ad ca v (zau (zau (zau u 5 x3 ((u 5) (8 : Int32).toNatClampNeg)) 6 x3 x1) 7 x3 (((zau (zau u 5 x3 ((u 5) (8 : Int32).toNatClampNeg)) 6 x3 x1) 7) (8 : Int32).toNatClampNeg))) H := hP
    have hD : va_D _ (wM ad ca v (zau (zau (zau u 5 x3 ((u 5) (8 : Int32).toNatClampNeg)) 6 x3 x1) 7 x3 (((zau (zau u 5 x3 ((u 5) (8 : Int32).toNatClampNeg)) 6 x3 x1) 7) (8 : Int32).toNatClampNeg))) := hD
    exact b_M_declare_192 G0 hK hX _ _ _ _ hm H _ _ hP hD hS (lv_sub hl [0, 1, 2] rfl)
  · replace hm := zf cd11 hm
    refine lv_aload_n hx hb dX6_declare_110 rfl (lv_at hl 0 rfl) ?_
    refine va_get (D := D) (ci := 5) (v := .ref (ad 3)) (C := RX6) (T := TX6) (N := 24) hx hb hw zinX6 hown hK hP 0 rfl rfl 5 (by decide) (hw _ zw4) (fun _ h9 => h9) rfl dX6_declare_111 ?_
    refine lv_bipush (v := 24) hx hb dX6_declare_114 (by decide) ?_
    refine lv_iload_n hx hb dX6_declare_116 rfl (lv_at hl 2 rfl) ?_
    refine lv_imul hx hb dX6_declare_117 ?_
    refine lv_iload hx hb dX6_declare_118 (lv_at hl 3 rfl) ?_
    refine lv_iadd hx hb dX6_declare_120 ?_
    refine lv_aload_n hx hb dX6_declare_121 rfl (lv_at hl 0 rfl) ?_
    refine lv_bipush (v := 8) hx hb dX6_declare_122 (by decide) ?_
    refine lv_iload hx hb dX6_declare_124 (lv_at hl 3 rfl) ?_
    obtain ⟨q40, hq40, hm⟩ := zbind hm
    refine zbWi (va_runV (As := [.int 8, .int x4]) (rest := [.int ((24 * x3) + x4), .ref (ad 3)]) ⟨hx, hb, hml, hown, hw⟩ (k_M_sym l D ad ca _ 8 x4 v u  q40 hq40) (zcV (C := RX6) 2 hw (zgood zw14) rfl rfl rfl zw7 zw16 zw15 zw17 hdX6_sym ⟨Nat.le_of_ble_eq_true rfl, Nat.le_of_ble_eq_true rfl⟩) (zpreV (zpre zN_ok trivial hS (zfree hD hS hA) hP hK hD) (va_recv hK hP rfl (q0 := 0) rfl)) rfl rfl hl.1 rfl (lv_room (Nat.le_of_ble_eq_true rfl)) dX6_declare_126 ⟨Nat.zero_le _, Nat.zero_le _⟩) hS (zfree hD hS hA) (fun H locs hP hD hS => ?_)
    obtain ⟨hi41, hm⟩ := zix_s hm
    refine va_iast (i := ((24 * x3) + x4)) (x := q40) (f := (u 3)) (n := 216) hx hb hK hP hD hS 3 2 rfl rfl hi41 dX6_declare_129 (fun H locs hP hD hS => ?_)
    have hP : va_P D vwCl (wM ad ca v (zau u 3 ((24 * x3) + x4) q40)) H := hP
    have hD : va_D _ (wM ad ca v (zau u 3 ((24 * x3) + x4) q40)) := hD
    refine lv_aload_n hx hb dX6_declare_130 rfl (lv_at hl 0 rfl) ?_
    refine va_get (D := D) (ci := 5) (v := .ref (ad 4)) (C := RX6) (T := TX6) (N := 24) hx hb hw zinX6 hown hK hP 0 rfl rfl 6 (by decide) (hw _ zw21) (fun _ h9 => h9) rfl dX6_declare_131 ?_
    refine lv_bipush (v := 24) hx hb dX6_declare_134 (by decide) ?_
    refine lv_iload_n hx hb dX6_declare_136 rfl (lv_at hl 2 rfl) ?_
    refine lv_imul hx hb dX6_declare_137 ?_
    refine lv_iload hx hb dX6_declare_138 (lv_at hl 3 rfl) ?_
    refine lv_iadd hx hb dX6_declare_140 ?_
    refine lv_aload_n hx hb dX6_declare_141 rfl (lv_at hl 0 rfl) ?_
    refine va_get (D := D) (ci := 5) (v := .ref (ad 4)) (C := RX6) (T := TX6) (N := 24) hx hb hw zinX6 hown hK hP 0 rfl rfl 6 (by decide) (hw _ zw21) (fun _ h9 => h9) rfl dX6_declare_142 ?_
    refine lv_sipush (v := 192) hx hb dX6_declare_145 (by decide) ?_
    refine lv_iload hx hb dX6_declare_148 (lv_at hl 3 rfl) ?_
    refine lv_iadd hx hb dX6_declare_150 ?_
    obtain ⟨hi42, hm⟩ := zix_s hm
    refine va_iald (i := (192 + x4)) (f := ((zau u 3 ((24 * x3) + x4) q40) 4)) (n := 216) hx hb hK hP 4 3 rfl rfl hi42 dX6_declare_151 ?_
    obtain ⟨hi43, hm⟩ := zix_s hm
    refine va_iast (i := ((24 * x3) + x4)) (x := (((zau u 3 ((24 * x3) + x4) q40) 4) (192 + x4).toNatClampNeg)) (f := ((zau u 3 ((24 * x3) + x4) q40) 4)) (n := 216) hx hb hK hP hD hS 4 3 rfl rfl hi43 dX6_declare_152 (fun H locs hP hD hS => ?_)
    have hP : va_P D vwCl (wM ad ca v (zau (zau u 3 ((24 * x3) + x4) q40) 4 ((24 * x3) + x4) (((zau u 3 ((24 * x3) + x4) q40) 4) (192 + x4).toNatClampNeg))) H := hP
    have hD : va_D _ (wM ad ca v (zau (zau u 3 ((24 * x3) + x4) q40) 4 ((24 * x3) + x4) (((zau u 3 ((24 * x3) + x4) q40) 4) (192 + x4).toNatClampNeg))) := hD
    refine lv_iinc (k := 3) (v := (x4 + 1)) (lv' := [(4, .int (x4 + 1)), (0, .ref (ad 0)), (1, .int x1), (3, .int x3)]) hx hb dX6_declare_153 hl rfl rfl (by decide) rfl (fun ls hl => ?_)
    refine lv_goto (tgt := 103) hx hb dX6_declare_156 rfl ?_
    exact hrec _ _ _ _ _ hm H _ _ hP hD hS (lv_sub hl [1, 2, 3, 0] rfl)
set_option maxRecDepth 100000 in
set_option maxHeartbeats 4000000 in
theorem b_M_declare_73 (G : zG p s m args meth c cX6_declare RX6 5 (some .int)) (hK : va_K D vwCl (wM_t ca) s) (hX : zN (va_A w0 s.heap.size) s) {res : (Int32) × (Nat → Int32) × (Nat → Nat → Int32)} : ∀ (x1 : Int32) (t0 : Int32) (t1 : Int32) (v : Nat → Int32) (u : Nat → Nat → Int32), m_M_declare_73  x1 t0 t1 v u = some res → zB p l e (zR 5 130) s m args below meth c D vwCl (va_A w0 s.heap.size) (MQ below (zQi D vwCl w0 (wM ad ca res.2.1 res.2.2) s.heap.size res.1) args s 0 0 (va_A w0 s.heap.size)) 5 (wM ad ca v u) [(0, .ref (ad 0)), (1, .int x1)] 73 [.int t0, .int t1, .ref (ad 0)] := by
  intro x1 t0 t1 v u hm H locs ls hP hD hS hl
  unfold m_M_declare_73 at hm
  have G0 := G
  obtain ⟨hx, hb, hr, hml, hown, hw, hlk⟩ := G
  have hA : ∀ q, s.heap.size ≤ q → va_A w0 s.heap.size q := fun q h => Or.inr h
  refine lv_iconst (v := 0) hx hb dX6_declare_73 (by decide) ?_
  obtain ⟨q7, hq7, hm⟩ := zbind hm
  refine zbWi (va_runV (As := [.int t1, .int t0, .int 0]) (rest := []) ⟨hx, hb, hml, hown, hw⟩ (k_M_fails l D ad ca _ t1 t0 0 v u  q7 hq7) (zcV (C := RX6) 3 hw (zgood zw122) rfl rfl rfl zw7 zw124 zw123 zw125 hdX6_fails ⟨Nat.le_of_ble_eq_true rfl, Nat.le_of_ble_eq_true rfl⟩) (zpreV (zpre zN_ok trivial hS (zfree hD hS hA) hP hK hD) (va_recv hK hP rfl (q0 := 0) rfl)) rfl rfl hl.1 rfl (lv_room (Nat.le_of_ble_eq_true rfl)) dX6_declare_74 ⟨Nat.zero_le _, Nat.zero_le _⟩) hS (zfree hD hS hA) (fun H locs hP hD hS => ?_)
  have hP : va_P D vwCl (wM ad ca q7.2 u) H := hP
  have hD : va_D _ (wM ad ca q7.2 u) := hD
  refine lv_if_eq (tgt := 82) hx hb dX6_declare_77 rfl (fun cd8 => ?_) (fun cd8 => ?_)
  · replace hm := zt cd8 hm
    refine lv_aload_n hx hb dX6_declare_82 rfl (lv_at hl 0 rfl) ?_
    refine va_get (D := D) (ci := 5) (v := .int (q7.2 3)) (C := RX6) (T := TX6) (N := 24) hx hb hw zinX6 hown hK hP 0 rfl rfl 3 (by decide) (hw _ zw1) (fun _ h9 => h9) rfl dX6_declare_83 ?_
    refine lv_istore_n (lv' := [(3, .int (q7.2 3)), (0, .ref (ad 0)), (1, .int x1)]) hx hb dX6_declare_86 rfl hl (by decide) rfl (fun ls hl => ?_)
    refine lv_aload_n hx hb dX6_declare_87 rfl (lv_at hl 1 rfl) ?_
    refine va_get (D := D) (ci := 5) (v := .ref (ad 2)) (C := RX6) (T := TX6) (N := 24) hx hb hw zinX6 hown hK hP 0 rfl rfl 4 (by decide) (hw _ zw5) (fun _ h9 => h9) rfl dX6_declare_88 ?_
    refine lv_iload_n hx hb dX6_declare_91 rfl (lv_at hl 0 rfl) ?_
    refine lv_aload_n hx hb dX6_declare_92 rfl (lv_at hl 1 rfl) ?_
    refine va_get (D := D) (ci := 5) (v := .ref (ad 2)) (C := RX6) (T := TX6) (N := 24) hx hb hw zinX6 hown hK hP 0 rfl rfl 4 (by decide) (hw _ zw5) (fun _ h9 => h9) rfl dX6_declare_93 ?_
    refine lv_bipush (v := 8) hx hb dX6_declare_96 (by decide) ?_
    obtain ⟨hi9, hm⟩ := zix_s hm
    refine va_iald (i := 8) (f := (u 2)) (n := 9) hx hb hK hP 2 1 rfl rfl hi9 dX6_declare_98 ?_
    obtain ⟨hi10, hm⟩ := zix_s hm
    refine va_iast (i := (q7.2 3)) (x := ((u 2) (8 : Int32).toNatClampNeg)) (f := (u 2)) (n := 9) hx hb hK hP hD hS 2 1 rfl rfl hi10 dX6_declare_99 (fun H locs hP hD hS => ?_)
    have hP : va_P D vwCl (wM ad ca q7.2 (zau u 2 (q7.2 3) ((u 2) (8 : Int32).toNatClampNeg))) H := hP
    have hD : va_D _ (wM ad ca q7.2 (zau u 2 (q7.2 3) ((u 2) (8 : Int32).toNatClampNeg))) := hD
    refine lv_iconst (v := 0) hx hb dX6_declare_100 (by decide) ?_
    refine lv_istore (lv' := [(4, .int 0), (3, .int (q7.2 3)), (0, .ref (ad 0)), (1, .int x1)]) hx hb dX6_declare_101 hl (by decide) rfl (fun ls hl => ?_)
    exact b_M_declare_103 G0 hK hX 64 _ _ _ _ _ hm H _ _ hP hD hS (lv_sub hl [2, 3, 1, 0] rfl)
  · replace hm := zf cd8 hm
    refine lv_iconst (v := 0) hx hb dX6_declare_80 (by decide) ?_
    cases hm
    exact zreti hx hb hr hlk hP hD hS dX6_declare_81
set_option maxRecDepth 100000 in
set_option maxHeartbeats 4000000 in
theorem b_M_declare_56 (G : zG p s m args meth c cX6_declare RX6 5 (some .int)) (hK : va_K D vwCl (wM_t ca) s) (hX : zN (va_A w0 s.heap.size) s) {res : (Int32) × (Nat → Int32) × (Nat → Nat → Int32)} : ∀ (x1 : Int32) (t0 : Int32) (v : Nat → Int32) (u : Nat → Nat → Int32), m_M_declare_56  x1 t0 v u = some res → zB p l e (zR 5 130) s m args below meth c D vwCl (va_A w0 s.heap.size) (MQ below (zQi D vwCl w0 (wM ad ca res.2.1 res.2.2) s.heap.size res.1) args s 0 0 (va_A w0 s.heap.size)) 5 (wM ad ca v u) [(0, .ref (ad 0)), (1, .int x1)] 56 [.int t0] := by
  intro x1 t0 v u hm H locs ls hP hD hS hl
  unfold m_M_declare_56 at hm
  have G0 := G
  obtain ⟨hx, hb, hr, hml, hown, hw, hlk⟩ := G
  have hA : ∀ q, s.heap.size ≤ q → va_A w0 s.heap.size q := fun q h => Or.inr h
  refine lv_istore_n (lv' := [(2, .int t0), (0, .ref (ad 0)), (1, .int x1)]) hx hb dX6_declare_56 rfl hl (by decide) rfl (fun ls hl => ?_)
  refine lv_aload_n hx hb dX6_declare_57 rfl (lv_at hl 1 rfl) ?_
  refine lv_iconst (v := 0) hx hb dX6_declare_58 (by decide) ?_
  refine va_put (D := D) (ci := 5) (v := .int 0) (ty := .int) (C := RX6) (T := TX6) (N := 24) hx hb hw zinX6 tyX6 tyX6_ok nmX6 hown hK hP hD hS 0 rfl rfl 1 (by decide) (hw _ zw2) (fun _ h9 => h9) rfl (by decide +kernel) rfl rfl (Nat.le_of_ble_eq_true rfl) dX6_declare_59 (fun H locs hP hD hS => ?_)
  have hP : va_P D vwCl (wM ad ca (upd v 1 0) u) H := hP
  have hD : va_D _ (wM ad ca (upd v 1 0) u) := hD
  refine lv_aload_n hx hb dX6_declare_62 rfl (lv_at hl 1 rfl) ?_
  refine lv_iconst (v := 0) hx hb dX6_declare_63 (by decide) ?_
  refine lv_iload_n hx hb dX6_declare_64 rfl (lv_at hl 0 rfl) ?_
  refine lv_if_ne (tgt := 72) hx hb dX6_declare_65 rfl (fun cd6 => ?_) (fun cd6 => ?_)
  · replace hm := zf cd6 hm
    refine lv_iconst (v := 0) hx hb dX6_declare_72 (by decide) ?_
    exact b_M_declare_73 G0 hK hX _ _ _ _ _ hm H _ _ hP hD hS (lv_sub hl [1, 2] rfl)
  · replace hm := zt cd6 hm
    refine lv_iconst (v := 1) hx hb dX6_declare_68 (by decide) ?_
    refine lv_goto (tgt := 73) hx hb dX6_declare_69 rfl ?_
    exact b_M_declare_73 G0 hK hX _ _ _ _ _ hm H _ _ hP hD hS (lv_sub hl [1, 2] rfl)
set_option maxRecDepth 100000 in
set_option maxHeartbeats 4000000 in
theorem b_M_declare_55 (G : zG p s m args meth c cX6_declare RX6 5 (some .int)) (hK : va_K D vwCl (wM_t ca) s) (hX : zN (va_A w0 s.heap.size) s) {res : (Int32) × (Nat → Int32) × (Nat → Nat → Int32)} : ∀ (x1 : Int32) (v : Nat → Int32) (u : Nat → Nat → Int32), m_M_declare_55  x1 v u = some res → zB p l e (zR 5 130) s m args below meth c D vwCl (va_A w0 s.heap.size) (MQ below (zQi D vwCl w0 (wM ad ca res.2.1 res.2.2) s.heap.size res.1) args s 0 0 (va_A w0 s.heap.size)) 5 (wM ad ca v u) [(0, .ref (ad 0)), (1, .int x1)] 55 [] := by
  intro x1 v u hm H locs ls hP hD hS hl
  unfold m_M_declare_55 at hm
  have G0 := G
  obtain ⟨hx, hb, hr, hml, hown, hw, hlk⟩ := G
  have hA : ∀ q, s.heap.size ≤ q → va_A w0 s.heap.size q := fun q h => Or.inr h
  refine lv_iconst (v := 0) hx hb dX6_declare_55 (by decide) ?_
  exact b_M_declare_56 G0 hK hX _ _ _ _ hm H _ _ hP hD hS hl
set_option maxRecDepth 100000 in
set_option maxHeartbeats 4000000 in
theorem b_M_declare_51 (G : zG p s m args meth c cX6_declare RX6 5 (some .int)) (hK : va_K D vwCl (wM_t ca) s) (hX : zN (va_A w0 s.heap.size) s) {res : (Int32) × (Nat → Int32) × (Nat → Nat → Int32)} : ∀ (x1 : Int32) (v : Nat → Int32) (u : Nat → Nat → Int32), m_M_declare_51  x1 v u = some res → zB p l e (zR 5 130) s m args below meth c D vwCl (va_A w0 s.heap.size) (MQ below (zQi D vwCl w0 (wM ad ca res.2.1 res.2.2) s.heap.size res.1) args s 0 0 (va_A w0 s.heap.size)) 5 (wM ad ca v u) [(0, .ref (ad 0)), (1, .int x1)] 51 [] := by
  intro x1 v u hm H locs ls hP hD hS hl
  unfold m_M_declare_51 at hm
  have G0 := G
  obtain ⟨hx, hb, hr, hml, hown, hw, hlk⟩ := G
  have hA : ∀ q, s.heap.size ≤ q → va_A w0 s.heap.size q := fun q h => Or.inr h
  refine lv_iconst (v := 1) hx hb dX6_declare_51 (by decide) ?_
  refine lv_goto (tgt := 56) hx hb dX6_declare_52 rfl ?_
  exact b_M_declare_56 G0 hK hX _ _ _ _ hm H _ _ hP hD hS hl
set_option maxRecDepth 100000 in
set_option maxHeartbeats 4000000 in
theorem b_M_declare_15 (G : zG p s m args meth c cX6_declare RX6 5 (some .int)) (hK : va_K D vwCl (wM_t ca) s) (hX : zN (va_A w0 s.heap.size) s) {res : (Int32) × (Nat → Int32) × (Nat → Nat → Int32)} : ∀ (x1 : Int32) (t0 : Int32) (v : Nat → Int32) (u : Nat → Nat → Int32), m_M_declare_15  x1 t0 v u = some res → zB p l e (zR 5 130) s m args below meth c D vwCl (va_A w0 s.heap.size) (MQ below (zQi D vwCl w0 (wM ad ca res.2.1 res.2.2) s.heap.size res.1) args s 0 0 (va_A w0 s.heap.size)) 5 (wM ad ca v u) [(0, .ref (ad 0)), (1, .int x1)] 15 [.int t0, .ref (ad 0)] := by
  intro x1 t0 v u hm H locs ls hP hD hS hl
  unfold m_M_declare_15 at hm
  have G0 := G
  obtain ⟨hx, hb, hr, hml, hown, hw, hlk⟩ := G
  have hA : ∀ q, s.heap.size ≤ q → va_A w0 s.heap.size q := fun q h => Or.inr h
  refine lv_iconst (v := 0) hx hb dX6_declare_15 (by decide) ?_
  refine lv_iconst (v := 0) hx hb dX6_declare_16 (by decide) ?_
  obtain ⟨q2, hq2, hm⟩ := zbind hm
  refine zbWi (va_runV (As := [.int t0, .int 0, .int 0]) (rest := []) ⟨hx, hb, hml, hown, hw⟩ (k_M_fails l D ad ca _ t0 0 0 v u  q2 hq2) (zcV (C := RX6) 3 hw (zgood zw122) rfl rfl rfl zw7 zw124 zw123 zw125 hdX6_fails ⟨Nat.le_of_ble_eq_true rfl, Nat.le_of_ble_eq_true rfl⟩) (zpreV (zpre zN_ok trivial hS (zfree hD hS hA) hP hK hD) (va_recv hK hP rfl (q0 := 0) rfl)) rfl rfl hl.1 rfl (lv_room (Nat.le_of_ble_eq_true rfl)) dX6_declare_17 ⟨Nat.zero_le _, Nat.zero_le _⟩) hS (zfree hD hS hA) (fun H locs hP hD hS => ?_)
  have hP : va_P D vwCl (wM ad ca q2.2 u) H := hP
  have hD : va_D _ (wM ad ca q2.2 u) := hD
  refine lv_if_eq (tgt := 25) hx hb dX6_declare_20 rfl (fun cd3 => ?_) (fun cd3 => ?_)
  · replace hm := zt cd3 hm
    refine lv_aload_n hx hb dX6_declare_25 rfl (lv_at hl 0 rfl) ?_
    obtain ⟨q4, hq4, hm⟩ := zbind hm
    refine zbWi (va_runV (As := []) (rest := []) ⟨hx, hb, hml, hown, hw⟩ (k_M_reads l D ad ca _ q2.2 u  q4 hq4) (zcV (C := RX6) 0 hw (zgood zw126) rfl rfl rfl zw7 zw128 zw127 zw129 hdX6_reads ⟨Nat.le_of_ble_eq_true rfl, Nat.le_of_ble_eq_true rfl⟩) (zpreV (zpre zN_ok trivial hS (zfree hD hS hA) hP hK hD) (va_recv hK hP rfl (q0 := 0) rfl)) rfl rfl hl.1 rfl (lv_room (Nat.le_of_ble_eq_true rfl)) dX6_declare_26 ⟨Nat.zero_le _, Nat.zero_le _⟩) hS (zfree hD hS hA) (fun H locs hP hD hS => ?_)
    have hP : va_P D vwCl (wM ad ca q2.2 q4.2) H := hP
    have hD : va_D _ (wM ad ca q2.2 q4.2) := hD
    refine lv_if_eq (tgt := 55) hx hb dX6_declare_29 rfl (fun cd5 => ?_) (fun cd5 => ?_)
    · replace hm := zt cd5 hm
      exact b_M_declare_55 G0 hK hX _ _ _ hm H _ _ hP hD hS hl
    · replace hm := zf cd5 hm
      refine lv_iload_n hx hb dX6_declare_32 rfl (lv_at hl 1 rfl) ?_
      refine lv_if_eq (tgt := 51) hx hb dX6_declare_33 rfl (fun cd44 => ?_) (fun cd44 => ?_)
      · replace hm := zt cd44 hm
        exact b_M_declare_51 G0 hK hX _ _ _ hm H _ _ hP hD hS hl
      · replace hm := zf cd44 hm
        refine lv_iload_n hx hb dX6_declare_36 rfl (lv_at hl 1 rfl) ?_
        refine lv_iconst (v := 1) hx hb dX6_declare_37 (by decide) ?_
        refine lv_icmp_ne (tgt := 55) hx hb dX6_declare_38 rfl (fun cd45 => ?_) (fun cd45 => ?_)
        · replace hm := zf cd45 hm
          exact b_M_declare_55 G0 hK hX _ _ _ hm H _ _ hP hD hS hl
        · replace hm := zt cd45 hm
          refine lv_aload_n hx hb dX6_declare_41 rfl (lv_at hl 0 rfl) ?_
          refine va_get (D := D) (ci := 5) (v := .ref (ad 5)) (C := RX6) (T := TX6) (N := 24) hx hb hw zinX6 hown hK hP 0 rfl rfl 7 (by decide) (hw _ zw46) (fun _ h9 => h9) rfl dX6_declare_42 ?_
          refine lv_bipush (v := 8) hx hb dX6_declare_45 (by decide) ?_
          obtain ⟨hi46, hm⟩ := zix_s hm
          refine va_iald (i := 8) (f := (q4.2 5)) (n := 9) hx hb hK hP 5 4 rfl rfl hi46 dX6_declare_47 ?_
          refine lv_if_ne (tgt := 55) hx hb dX6_declare_48 rfl (fun cd47 => ?_) (fun cd47 => ?_)
          · replace hm := zf cd47 hm
            exact b_M_declare_55 G0 hK hX _ _ _ hm H _ _ hP hD hS hl
          · replace hm := zt cd47 hm
            exact b_M_declare_51 G0 hK hX _ _ _ hm H _ _ hP hD hS hl
  · replace hm := zf cd3 hm
    refine lv_iconst (v := 0) hx hb dX6_declare_23 (by decide) ?_
    cases hm
    exact zreti hx hb hr hlk hP hD hS dX6_declare_24
end
set_option maxRecDepth 100000 in
set_option maxHeartbeats 4000000 in
theorem k_M_declare (l : Launch) (D : va_G) (ad : Nat → Nat) (ca : Nat → ClassId) (sz : Nat) (a0 : Int32) (v : Nat → Int32) (u : Nat → Nat → Int32) (res : (Int32) × (Nat → Int32) × (Nat → Nat → Int32)) (hm : m_M_declare a0 v u  = some res) : Met l yX6_declare (Cond.code yX6_declare cX6_declare 5 (some .int) :: zBIG) (zR 5 130) (va_Pc [.ref (ad 0), .int a0] (zP zN D vwCl (wM_t ca) (wM ad ca v u) sz)) (zQi D vwCl (wM ad ca v u) (wM ad ca res.2.1 res.2.2) sz res.1) 0 0 (va_A (wM ad ca v u) sz) := by
  refine zEnter RX6 [.ref (ad 0), .int a0] (by decide) rfl (Nat.le_of_ble_eq_true rfl) (fun p e s m below meth c ls G hK hX hP hD hsz hl => ?_)
  subst hsz
  unfold m_M_declare at hm
  have hl : lv_has ls 5 [(0, .ref (ad 0)), (1, .int a0)] := hl
  have hS : va_S (va_A (wM ad ca v u) s.heap.size) s.heap s.heap [] := va_S.rf
  have hA : ∀ q, s.heap.size ≤ q → va_A (wM ad ca v u) s.heap.size q := fun q h => Or.inr h
  have G0 := G
  obtain ⟨hx, hb, hr, hml, hown, hw, hlk⟩ := G
  refine lv_aload_n hx hb dX6_declare_0 rfl (lv_at hl 0 rfl) ?_
  refine lv_aload_n hx hb dX6_declare_1 rfl (lv_at hl 0 rfl) ?_
  refine va_get (D := D) (ci := 5) (v := .int (v 3)) (C := RX6) (T := TX6) (N := 24) hx hb hw zinX6 hown hK hP 0 rfl rfl 3 (by decide) (hw _ zw1) (fun _ h9 => h9) rfl dX6_declare_2 ?_
  refine lv_bipush (v := 8) hx hb dX6_declare_5 (by decide) ?_
  refine lv_icmp_ne (tgt := 14) hx hb dX6_declare_7 rfl (fun cd1 => ?_) (fun cd1 => ?_)
  · replace hm := zf cd1 hm
    refine lv_iconst (v := 0) hx hb dX6_declare_14 (by decide) ?_
    exact b_M_declare_15 G0 hK hX _ _ _ _ hm _ _ _ hP hD hS hl
  · replace hm := zt cd1 hm
    refine lv_iconst (v := 1) hx hb dX6_declare_10 (by decide) ?_
    refine lv_goto (tgt := 15) hx hb dX6_declare_11 rfl ?_
    exact b_M_declare_15 G0 hK hX _ _ _ _ hm _ _ _ hP hD hS hl

theorem dX6_look_0 : decode cX6_look 0 = .ok (.aload_n 0, 1) := by decide +kernel
theorem dX6_look_1 : decode cX6_look 1 = .ok (.iload_n 1, 1) := by decide +kernel
theorem dX6_look_2 : decode cX6_look 2 = .ok (.invokevirtual 155, 3) := by decide +kernel
theorem dX6_look_5 : decode cX6_look 5 = .ok (.ifCond .ne 7, 3) := by decide +kernel
theorem dX6_look_8 : decode cX6_look 8 = .ok (.iconst 1, 1) := by decide +kernel
theorem dX6_look_9 : decode cX6_look 9 = .ok (.goto 4, 3) := by decide +kernel
theorem dX6_look_12 : decode cX6_look 12 = .ok (.iconst 0, 1) := by decide +kernel
theorem dX6_look_13 : decode cX6_look 13 = .ok (.istore_n 3, 1) := by decide +kernel
theorem dX6_look_14 : decode cX6_look 14 = .ok (.aload_n 0, 1) := by decide +kernel
theorem dX6_look_15 : decode cX6_look 15 = .ok (.iload_n 3, 1) := by decide +kernel
theorem dX6_look_16 : decode cX6_look 16 = .ok (.iload_n 2, 1) := by decide +kernel
theorem dX6_look_17 : decode cX6_look 17 = .ok (.ifCond .lt 8, 3) := by decide +kernel
theorem dX6_look_20 : decode cX6_look 20 = .ok (.iload_n 2, 1) := by decide +kernel
theorem dX6_look_21 : decode cX6_look 21 = .ok (.iconst 4, 1) := by decide +kernel
theorem dX6_look_22 : decode cX6_look 22 = .ok (.if_icmp .le 7, 3) := by decide +kernel
theorem dX6_look_25 : decode cX6_look 25 = .ok (.iconst 1, 1) := by decide +kernel
theorem dX6_look_26 : decode cX6_look 26 = .ok (.goto 4, 3) := by decide +kernel
theorem dX6_look_29 : decode cX6_look 29 = .ok (.iconst 0, 1) := by decide +kernel
theorem dX6_look_30 : decode cX6_look 30 = .ok (.iconst 0, 1) := by decide +kernel
theorem dX6_look_31 : decode cX6_look 31 = .ok (.invokevirtual 135, 3) := by decide +kernel
theorem dX6_look_34 : decode cX6_look 34 = .ok (.ifCond .eq 5, 3) := by decide +kernel
theorem dX6_look_37 : decode cX6_look 37 = .ok (.iconst 0, 1) := by decide +kernel
theorem dX6_look_38 : decode cX6_look 38 = .ok (.ireturn, 1) := by decide +kernel
theorem dX6_look_39 : decode cX6_look 39 = .ok (.iload_n 2, 1) := by decide +kernel
theorem dX6_look_40 : decode cX6_look 40 = .ok (.tableswitch 60 0 3 #[32, 39, 46, 53], 32) := by decide +kernel
theorem dX6_look_72 : decode cX6_look 72 = .ok (.aload_n 0, 1) := by decide +kernel
theorem dX6_look_73 : decode cX6_look 73 = .ok (.getfield 22, 3) := by decide +kernel
theorem dX6_look_76 : decode cX6_look 76 = .ok (.iload_n 1, 1) := by decide +kernel
theorem dX6_look_77 : decode cX6_look 77 = .ok (.iaload, 1) := by decide +kernel
theorem dX6_look_78 : decode cX6_look 78 = .ok (.ireturn, 1) := by decide +kernel
theorem dX6_look_79 : decode cX6_look 79 = .ok (.aload_n 0, 1) := by decide +kernel
theorem dX6_look_80 : decode cX6_look 80 = .ok (.getfield 53, 3) := by decide +kernel
theorem dX6_look_83 : decode cX6_look 83 = .ok (.iload_n 1, 1) := by decide +kernel
theorem dX6_look_84 : decode cX6_look 84 = .ok (.iaload, 1) := by decide +kernel
theorem dX6_look_85 : decode cX6_look 85 = .ok (.ireturn, 1) := by decide +kernel
theorem dX6_look_86 : decode cX6_look 86 = .ok (.aload_n 0, 1) := by decide +kernel
theorem dX6_look_87 : decode cX6_look 87 = .ok (.getfield 28, 3) := by decide +kernel
theorem dX6_look_90 : decode cX6_look 90 = .ok (.iload_n 1, 1) := by decide +kernel
theorem dX6_look_91 : decode cX6_look 91 = .ok (.iaload, 1) := by decide +kernel
theorem dX6_look_92 : decode cX6_look 92 = .ok (.ireturn, 1) := by decide +kernel
theorem dX6_look_93 : decode cX6_look 93 = .ok (.aload_n 0, 1) := by decide +kernel
theorem dX6_look_94 : decode cX6_look 94 = .ok (.getfield 31, 3) := by decide +kernel
theorem dX6_look_97 : decode cX6_look 97 = .ok (.iload_n 1, 1) := by decide +kernel
theorem dX6_look_98 : decode cX6_look 98 = .ok (.iaload, 1) := by decide +kernel
theorem dX6_look_99 : decode cX6_look 99 = .ok (.ireturn, 1) := by decide +kernel
theorem dX6_look_100 : decode cX6_look 100 = .ok (.aload_n 0, 1) := by decide +kernel
theorem dX6_look_101 : decode cX6_look 101 = .ok (.getfield 34, 3) := by decide +kernel
theorem dX6_look_104 : decode cX6_look 104 = .ok (.iload_n 1, 1) := by decide +kernel
theorem dX6_look_105 : decode cX6_look 105 = .ok (.baload, 1) := by decide +kernel
theorem dX6_look_106 : decode cX6_look 106 = .ok (.ifCond .eq 7, 3) := by decide +kernel
theorem dX6_look_109 : decode cX6_look 109 = .ok (.iconst 1, 1) := by decide +kernel
theorem dX6_look_110 : decode cX6_look 110 = .ok (.goto 4, 3) := by decide +kernel
theorem dX6_look_113 : decode cX6_look 113 = .ok (.iconst 0, 1) := by decide +kernel
theorem dX6_look_114 : decode cX6_look 114 = .ok (.ireturn, 1) := by decide +kernel
def m_M_look_30 (u : Nat → Nat → Int32) (x1 : Int32) (x2 : Int32) (t0 : Int32) (t1 : Int32) (v : Nat → Int32) : Option ((Int32) × (Nat → Int32)) := (m_M_fails t1 t0 0 v u).bind (fun q4 => (if q4.1 = 0 then (if x2 = 0 then zix x1 9 ((some (((u 5) x1.toNatClampNeg), q4.2))) else (if x2 = 1 then zix x1 9 ((some (((u 15) x1.toNatClampNeg), q4.2))) else (if x2 = 2 then zix x1 9 ((some (((u 7) x1.toNatClampNeg), q4.2))) else (if x2 = 3 then zix x1 9 ((some (((u 8) x1.toNatClampNeg), q4.2))) else zix x1 9 ((if ((u 9) x1.toNatClampNeg) = 0 then (some (0, q4.2)) else (some (1, q4.2)))))))) else (some (0, q4.2))))
def m_M_look_25 (u : Nat → Nat → Int32) (x1 : Int32) (x2 : Int32) (t0 : Int32) (v : Nat → Int32) : Option ((Int32) × (Nat → Int32)) := m_M_look_30 u x1 x2 1 t0 v
def m_M_look_13 (u : Nat → Nat → Int32) (x1 : Int32) (x2 : Int32) (t0 : Int32) (v : Nat → Int32) : Option ((Int32) × (Nat → Int32)) := (if x2 < 0 then m_M_look_25 u x1 x2 t0 v else (if x2 ≤ 4 then m_M_look_30 u x1 x2 0 t0 v else m_M_look_25 u x1 x2 t0 v))
def m_M_look (a0 : Int32) (a1 : Int32) (v : Nat → Int32) (u : Nat → Nat → Int32)  : Option ((Int32) × (Nat → Int32)) := (m_M_isField a0 v u).bind (fun q1 => (if q1 = 0 then m_M_look_13 u a0 a1 1 v else m_M_look_13 u a0 a1 0 v))
section
variable {p : Program} {l : Launch} {e : Env} {s : State} {m : MethodId} {args : Array Value} {below : List Frame} {meth : Method} {c : Code} {D : va_G} {w0 : va_W} {ad : Nat → Nat} {ca : Nat → ClassId} {u : Nat → Nat → Int32}
set_option maxRecDepth 100000 in
set_option maxHeartbeats 4000000 in
theorem b_M_look_30 (G : zG p s m args meth c cX6_look RX6 4 (some .int)) (hK : va_K D vwCl (wM_t ca) s) (hX : zN (va_A w0 s.heap.size) s) {res : (Int32) × (Nat → Int32)} : ∀ (x1 : Int32) (x2 : Int32) (t0 : Int32) (t1 : Int32) (v : Nat → Int32), m_M_look_30 u x1 x2 t0 t1 v = some res → zB p l e (zR 1 23) s m args below meth c D vwCl (va_A w0 s.heap.size) (MQ below (zQi D vwCl w0 (wM ad ca res.2 u) s.heap.size res.1) args s 0 0 (va_A w0 s.heap.size)) 4 (wM ad ca v u) [(0, .ref (ad 0)), (1, .int x1), (2, .int x2)] 30 [.int t0, .int t1, .ref (ad 0)] := by
  intro x1 x2 t0 t1 v hm H locs ls hP hD hS hl
  unfold m_M_look_30 at hm
  have G0 := G
  obtain ⟨hx, hb, hr, hml, hown, hw, hlk⟩ := G
  have hA : ∀ q, s.heap.size ≤ q → va_A w0 s.heap.size q := fun q h => Or.inr h
  refine lv_iconst (v := 0) hx hb dX6_look_30 (by decide) ?_
  obtain ⟨q4, hq4, hm⟩ := zbind hm
  refine zbWi (va_runV (As := [.int t1, .int t0, .int 0]) (rest := []) ⟨hx, hb, hml, hown, hw⟩ (k_M_fails l D ad ca _ t1 t0 0 v u  q4 hq4) (zcV (C := RX6) 3 hw (zgood zw122) rfl rfl rfl zw7 zw124 zw123 zw125 hdX6_fails ⟨Nat.le_of_ble_eq_true rfl, Nat.le_of_ble_eq_true rfl⟩) (zpreV (zpre zN_ok trivial hS (zfree hD hS hA) hP hK hD) (va_recv hK hP rfl (q0 := 0) rfl)) rfl rfl hl.1 rfl (lv_room (Nat.le_of_ble_eq_true rfl)) dX6_look_31 ⟨Nat.zero_le _, Nat.zero_le _⟩) hS (zfree hD hS hA) (fun H locs hP hD hS => ?_)
  have hP : va_P D vwCl (wM ad ca q4.2 u) H := hP
  have hD : va_D _ (wM ad ca q4.2 u) := hD
  refine lv_if_eq (tgt := 39) hx hb dX6_look_34 rfl (fun cd5 => ?_) (fun cd5 => ?_)
  · replace hm := zt cd5 hm
    refine lv_iload_n hx hb dX6_look_39 rfl (lv_at hl 2 rfl) ?_
    by_cases cd6 : x2 = 0
    · replace hm := zt cd6 hm
      refine lv_tableIn (off := 32) (tgt := 72) hx hb dX6_look_40 (by rw [cd6]; decide) (by rw [cd6]; decide) (by rw [cd6]; decide) rfl ?_
      refine lv_aload_n hx hb dX6_look_72 rfl (lv_at hl 0 rfl) ?_
      refine va_get (D := D) (ci := 5) (v := .ref (ad 5)) (C := RX6) (T := TX6) (N := 24) hx hb hw zinX6 hown hK hP 0 rfl rfl 7 (by decide) (hw _ zw46) (fun _ h9 => h9) rfl dX6_look_73 ?_
      refine lv_iload_n hx hb dX6_look_76 rfl (lv_at hl 1 rfl) ?_
      obtain ⟨hi10, hm⟩ := zix_s hm
      refine va_iald (i := x1) (f := (u 5)) (n := 9) hx hb hK hP 5 4 rfl rfl hi10 dX6_look_77 ?_
      cases hm
      exact zreti hx hb hr hlk hP hD hS dX6_look_78
    · replace hm := zf cd6 hm
      by_cases cd7 : x2 = 1
      · replace hm := zt cd7 hm
        refine lv_tableIn (off := 39) (tgt := 79) hx hb dX6_look_40 (by rw [cd7]; decide) (by rw [cd7]; decide) (by rw [cd7]; decide) rfl ?_
        refine lv_aload_n hx hb dX6_look_79 rfl (lv_at hl 0 rfl) ?_
        refine va_get (D := D) (ci := 5) (v := .ref (ad 15)) (C := RX6) (T := TX6) (N := 24) hx hb hw zinX6 hown hK hP 0 rfl rfl 17 (by decide) (hw _ zw50) (fun _ h9 => h9) rfl dX6_look_80 ?_
        refine lv_iload_n hx hb dX6_look_83 rfl (lv_at hl 1 rfl) ?_
        obtain ⟨hi11, hm⟩ := zix_s hm
        refine va_iald (i := x1) (f := (u 15)) (n := 9) hx hb hK hP 15 14 rfl rfl hi11 dX6_look_84 ?_
        cases hm
        exact zreti hx hb hr hlk hP hD hS dX6_look_85
      · replace hm := zf cd7 hm
        by_cases cd8 : x2 = 2
        · replace hm := zt cd8 hm
          refine lv_tableIn (off := 46) (tgt := 86) hx hb dX6_look_40 (by rw [cd8]; decide) (by rw [cd8]; decide) (by rw [cd8]; decide) rfl ?_
          refine lv_aload_n hx hb dX6_look_86 rfl (lv_at hl 0 rfl) ?_
          refine va_get (D := D) (ci := 5) (v := .ref (ad 7)) (C := RX6) (T := TX6) (N := 24) hx hb hw zinX6 hown hK hP 0 rfl rfl 9 (by decide) (hw _ zw49) (fun _ h9 => h9) rfl dX6_look_87 ?_
          refine lv_iload_n hx hb dX6_look_90 rfl (lv_at hl 1 rfl) ?_
          obtain ⟨hi12, hm⟩ := zix_s hm
          refine va_iald (i := x1) (f := (u 7)) (n := 9) hx hb hK hP 7 6 rfl rfl hi12 dX6_look_91 ?_
          cases hm
          exact zreti hx hb hr hlk hP hD hS dX6_look_92
        · replace hm := zf cd8 hm
          by_cases cd9 : x2 = 3
          · replace hm := zt cd9 hm
            refine lv_tableIn (off := 53) (tgt := 93) hx hb dX6_look_40 (by rw [cd9]; decide) (by rw [cd9]; decide) (by rw [cd9]; decide) rfl ?_
            refine lv_aload_n hx hb dX6_look_93 rfl (lv_at hl 0 rfl) ?_
            refine va_get (D := D) (ci := 5) (v := .ref (ad 8)) (C := RX6) (T := TX6) (N := 24) hx hb hw zinX6 hown hK hP 0 rfl rfl 10 (by decide) (hw _ zw22) (fun _ h9 => h9) rfl dX6_look_94 ?_
            refine lv_iload_n hx hb dX6_look_97 rfl (lv_at hl 1 rfl) ?_
            obtain ⟨hi13, hm⟩ := zix_s hm
            refine va_iald (i := x1) (f := (u 8)) (n := 9) hx hb hK hP 8 7 rfl rfl hi13 dX6_look_98 ?_
            cases hm
            exact zreti hx hb hr hlk hP hD hS dX6_look_99
          · replace hm := zf cd9 hm
            have ecd6 := lv_neT cd6 (a := 0) (by decide)
            have ecd7 := lv_neT cd7 (a := 1) (by decide)
            have ecd8 := lv_neT cd8 (a := 2) (by decide)
            have ecd9 := lv_neT cd9 (a := 3) (by decide)
            refine lv_tableOut (tgt := 100) hx hb dX6_look_40 (by omega) rfl ?_
            refine lv_aload_n hx hb dX6_look_100 rfl (lv_at hl 0 rfl) ?_
            refine va_get (D := D) (ci := 5) (v := .ref (ad 9)) (C := RX6) (T := TX6) (N := 24) hx hb hw zinX6 hown hK hP 0 rfl rfl 11 (by decide) (hw _ zw47) (fun _ h9 => h9) rfl dX6_look_101 ?_
            refine lv_iload_n hx hb dX6_look_104 rfl (lv_at hl 1 rfl) ?_
            obtain ⟨hi14, hm⟩ := zix_s hm
            refine va_zald (i := x1) (f := (u 9)) (n := 9) hx hb hK hP 9 8 rfl rfl hi14 dX6_look_105 ?_
            refine lv_if_eq (tgt := 113) hx hb dX6_look_106 rfl (fun cd15 => ?_) (fun cd15 => ?_)
            · replace hm := zt cd15 hm
              refine lv_iconst (v := 0) hx hb dX6_look_113 (by decide) ?_
              cases hm
              exact zreti hx hb hr hlk hP hD hS dX6_look_114
            · replace hm := zf cd15 hm
              refine lv_iconst (v := 1) hx hb dX6_look_109 (by decide) ?_
              refine lv_goto (tgt := 114) hx hb dX6_look_110 rfl ?_
              cases hm
              exact zreti hx hb hr hlk hP hD hS dX6_look_114
  · replace hm := zf cd5 hm
    refine lv_iconst (v := 0) hx hb dX6_look_37 (by decide) ?_
    cases hm
    exact zreti hx hb hr hlk hP hD hS dX6_look_38
set_option maxRecDepth 100000 in
set_option maxHeartbeats 4000000 in
theorem b_M_look_25 (G : zG p s m args meth c cX6_look RX6 4 (some .int)) (hK : va_K D vwCl (wM_t ca) s) (hX : zN (va_A w0 s.heap.size) s) {res : (Int32) × (Nat → Int32)} : ∀ (x1 : Int32) (x2 : Int32) (t0 : Int32) (v : Nat → Int32), m_M_look_25 u x1 x2 t0 v = some res → zB p l e (zR 1 23) s m args below meth c D vwCl (va_A w0 s.heap.size) (MQ below (zQi D vwCl w0 (wM ad ca res.2 u) s.heap.size res.1) args s 0 0 (va_A w0 s.heap.size)) 4 (wM ad ca v u) [(0, .ref (ad 0)), (1, .int x1), (2, .int x2)] 25 [.int t0, .ref (ad 0)] := by
  intro x1 x2 t0 v hm H locs ls hP hD hS hl
  unfold m_M_look_25 at hm
  have G0 := G
  obtain ⟨hx, hb, hr, hml, hown, hw, hlk⟩ := G
  have hA : ∀ q, s.heap.size ≤ q → va_A w0 s.heap.size q := fun q h => Or.inr h
  refine lv_iconst (v := 1) hx hb dX6_look_25 (by decide) ?_
  refine lv_goto (tgt := 30) hx hb dX6_look_26 rfl ?_
  exact b_M_look_30 G0 hK hX _ _ _ _ _ hm H _ _ hP hD hS hl
set_option maxRecDepth 100000 in
set_option maxHeartbeats 4000000 in
theorem b_M_look_13 (G : zG p s m args meth c cX6_look RX6 4 (some .int)) (hK : va_K D vwCl (wM_t ca) s) (hX : zN (va_A w0 s.heap.size) s) {res : (Int32) × (Nat → Int32)} : ∀ (x1 : Int32) (x2 : Int32) (t0 : Int32) (v : Nat → Int32), m_M_look_13 u x1 x2 t0 v = some res → zB p l e (zR 1 23) s m args below meth c D vwCl (va_A w0 s.heap.size) (MQ below (zQi D vwCl w0 (wM ad ca res.2 u) s.heap.size res.1) args s 0 0 (va_A w0 s.heap.size)) 4 (wM ad ca v u) [(0, .ref (ad 0)), (1, .int x1), (2, .int x2)] 13 [.int t0] := by
  intro x1 x2 t0 v hm H locs ls hP hD hS hl
  unfold m_M_look_13 at hm
  have G0 := G
  obtain ⟨hx, hb, hr, hml, hown, hw, hlk⟩ := G
  have hA : ∀ q, s.heap.size ≤ q → va_A w0 s.heap.size q := fun q h => Or.inr h
  refine lv_istore_n (lv' := [(3, .int t0), (0, .ref (ad 0)), (1, .int x1), (2, .int x2)]) hx hb dX6_look_13 rfl hl (by decide) rfl (fun ls hl => ?_)
  refine lv_aload_n hx hb dX6_look_14 rfl (lv_at hl 1 rfl) ?_
  refine lv_iload_n hx hb dX6_look_15 rfl (lv_at hl 0 rfl) ?_
  refine lv_iload_n hx hb dX6_look_16 rfl (lv_at hl 3 rfl) ?_
  refine lv_if_lt (tgt := 25) hx hb dX6_look_17 rfl (fun cd3 => ?_) (fun cd3 => ?_)
  · replace hm := zt cd3 hm
    exact b_M_look_25 G0 hK hX _ _ _ _ hm H _ _ hP hD hS (lv_sub hl [1, 2, 3] rfl)
  · replace hm := zf cd3 hm
    refine lv_iload_n hx hb dX6_look_20 rfl (lv_at hl 3 rfl) ?_
    refine lv_iconst (v := 4) hx hb dX6_look_21 (by decide) ?_
    refine lv_icmp_le (tgt := 29) hx hb dX6_look_22 rfl (fun cd16 => ?_) (fun cd16 => ?_)
    · replace hm := zt cd16 hm
      refine lv_iconst (v := 0) hx hb dX6_look_29 (by decide) ?_
      exact b_M_look_30 G0 hK hX _ _ _ _ _ hm H _ _ hP hD hS (lv_sub hl [1, 2, 3] rfl)
    · replace hm := zf cd16 hm
      exact b_M_look_25 G0 hK hX _ _ _ _ hm H _ _ hP hD hS (lv_sub hl [1, 2, 3] rfl)
end
set_option maxRecDepth 100000 in
set_option maxHeartbeats 4000000 in
theorem k_M_look (l : Launch) (D : va_G) (ad : Nat → Nat) (ca : Nat → ClassId) (sz : Nat) (a0 : Int32) (a1 : Int32) (v : Nat → Int32) (u : Nat → Nat → Int32) (res : (Int32) × (Nat → Int32)) (hm : m_M_look a0 a1 v u  = some res) : Met l yX6_look (Cond.code yX6_look cX6_look 4 (some .int) :: zBIG) (zR 1 23) (va_Pc [.ref (ad 0), .int a0, .int a1] (zP zN D vwCl (wM_t ca) (wM ad ca v u) sz)) (zQi D vwCl (wM ad ca v u) (wM ad ca res.2 u) sz res.1) 0 0 (va_A (wM ad ca v u) sz) := by
  refine zEnter RX6 [.ref (ad 0), .int a0, .int a1] (by decide) rfl (Nat.le_of_ble_eq_true rfl) (fun p e s m below meth c ls G hK hX hP hD hsz hl => ?_)
  subst hsz
  unfold m_M_look at hm
  have hl : lv_has ls 4 [(0, .ref (ad 0)), (1, .int a0), (2, .int a1)] := hl
  have hS : va_S (va_A (wM ad ca v u) s.heap.size) s.heap s.heap [] := va_S.rf
  have hA : ∀ q, s.heap.size ≤ q → va_A (wM ad ca v u) s.heap.size q := fun q h => Or.inr h
  have G0 := G
  obtain ⟨hx, hb, hr, hml, hown, hw, hlk⟩ := G
  refine lv_aload_n hx hb dX6_look_0 rfl (lv_at hl 0 rfl) ?_
  refine lv_iload_n hx hb dX6_look_1 rfl (lv_at hl 1 rfl) ?_
  obtain ⟨q1, hq1, hm⟩ := zbind hm
  refine zbWi (va_runV (As := [.int a0]) (rest := []) ⟨hx, hb, hml, hown, hw⟩ (k_M_isField l D ad ca _ a0 v u  q1 hq1) (zcV (C := RX6) 1 hw (zgood zw142) rfl rfl rfl zw7 zw144 zw143 zw145 hdX6_isField ⟨Nat.le_of_ble_eq_true rfl, Nat.le_of_ble_eq_true rfl⟩) (zpreV (zpre zN_ok trivial hS (zfree hD hS hA) hP hK hD) (va_recv hK hP rfl (q0 := 0) rfl)) rfl rfl hl.1 rfl (lv_room (Nat.le_of_ble_eq_true rfl)) dX6_look_2 ⟨Nat.zero_le _, Nat.zero_le _⟩) hS (zfree hD hS hA) (fun H locs hP hD hS => ?_)
  refine lv_if_ne (tgt := 12) hx hb dX6_look_5 rfl (fun cd2 => ?_) (fun cd2 => ?_)
  · replace hm := zf cd2 hm
    refine lv_iconst (v := 0) hx hb dX6_look_12 (by decide) ?_
    exact b_M_look_13 G0 hK hX _ _ _ _ hm _ _ _ hP hD hS hl
  · replace hm := zt cd2 hm
    refine lv_iconst (v := 1) hx hb dX6_look_8 (by decide) ?_
    refine lv_goto (tgt := 13) hx hb dX6_look_9 rfl ?_
    exact b_M_look_13 G0 hK hX _ _ _ _ hm _ _ _ hP hD hS hl

theorem dX6_isByte_0 : decode cX6_isByte 0 = .ok (.aload_n 0, 1) := by decide +kernel
theorem dX6_isByte_1 : decode cX6_isByte 1 = .ok (.iload_n 1, 1) := by decide +kernel
theorem dX6_isByte_2 : decode cX6_isByte 2 = .ok (.invokevirtual 155, 3) := by decide +kernel
theorem dX6_isByte_5 : decode cX6_isByte 5 = .ok (.ifCond .eq 21, 3) := by decide +kernel
theorem dX6_isByte_8 : decode cX6_isByte 8 = .ok (.iload_n 2, 1) := by decide +kernel
theorem dX6_isByte_9 : decode cX6_isByte 9 = .ok (.ifCond .lt 17, 3) := by decide +kernel
theorem dX6_isByte_12 : decode cX6_isByte 12 = .ok (.iload_n 2, 1) := by decide +kernel
theorem dX6_isByte_13 : decode cX6_isByte 13 = .ok (.aload_n 0, 1) := by decide +kernel
theorem dX6_isByte_14 : decode cX6_isByte 14 = .ok (.getfield 53, 3) := by decide +kernel
theorem dX6_isByte_17 : decode cX6_isByte 17 = .ok (.iload_n 1, 1) := by decide +kernel
theorem dX6_isByte_18 : decode cX6_isByte 18 = .ok (.iaload, 1) := by decide +kernel
theorem dX6_isByte_19 : decode cX6_isByte 19 = .ok (.if_icmp .ge 7, 3) := by decide +kernel
theorem dX6_isByte_22 : decode cX6_isByte 22 = .ok (.iconst 1, 1) := by decide +kernel
theorem dX6_isByte_23 : decode cX6_isByte 23 = .ok (.goto 4, 3) := by decide +kernel
theorem dX6_isByte_26 : decode cX6_isByte 26 = .ok (.iconst 0, 1) := by decide +kernel
theorem dX6_isByte_27 : decode cX6_isByte 27 = .ok (.ireturn, 1) := by decide +kernel
def m_M_isByte (a0 : Int32) (a1 : Int32) (v : Nat → Int32) (u : Nat → Nat → Int32)  : Option ((Int32)) := (m_M_isField a0 v u).bind (fun q1 => (if q1 = 0 then (zbo 0 (some 0)) else (if a1 < 0 then (zbo 0 (some 0)) else zix a0 9 ((if ((u 15) a0.toNatClampNeg) ≤ a1 then (zbo 0 (some 0)) else (zbo 1 (some 1)))))))
section
variable {p : Program} {l : Launch} {e : Env} {s : State} {m : MethodId} {args : Array Value} {below : List Frame} {meth : Method} {c : Code} {D : va_G} {w0 : va_W} {ad : Nat → Nat} {ca : Nat → ClassId} {v : Nat → Int32} {u : Nat → Nat → Int32}
end
set_option maxRecDepth 100000 in
set_option maxHeartbeats 4000000 in
theorem k_M_isByte (l : Launch) (D : va_G) (ad : Nat → Nat) (ca : Nat → ClassId) (sz : Nat) (a0 : Int32) (a1 : Int32) (v : Nat → Int32) (u : Nat → Nat → Int32) (res : (Int32)) (hm : m_M_isByte a0 a1 v u  = some res) : Met l yX6_isByte (Cond.code yX6_isByte cX6_isByte 3 (some .boolean) :: zBIG) (zR 1 21) (va_Pc [.ref (ad 0), .int a0, .int a1] (zP zN D vwCl (wM_t ca) (wM ad ca v u) sz)) (zQi D vwCl (wM ad ca v u) (wM ad ca v u) sz res) 0 0 (va_A (wM ad ca v u) sz) := by
  refine zEnter RX6 [.ref (ad 0), .int a0, .int a1] (by decide) rfl (Nat.le_of_ble_eq_true rfl) (fun p e s m below meth c ls G hK hX hP hD hsz hl => ?_)
  subst hsz
  unfold m_M_isByte at hm
  have hl : lv_has ls 3 [(0, .ref (ad 0)), (1, .int a0), (2, .int a1)] := hl
  have hS : va_S (va_A (wM ad ca v u) s.heap.size) s.heap s.heap [] := va_S.rf
  have hA : ∀ q, s.heap.size ≤ q → va_A (wM ad ca v u) s.heap.size q := fun q h => Or.inr h
  have G0 := G
  obtain ⟨hx, hb, hr, hml, hown, hw, hlk⟩ := G
  refine lv_aload_n hx hb dX6_isByte_0 rfl (lv_at hl 0 rfl) ?_
  refine lv_iload_n hx hb dX6_isByte_1 rfl (lv_at hl 1 rfl) ?_
  obtain ⟨q1, hq1, hm⟩ := zbind hm
  refine zbWi (va_runV (As := [.int a0]) (rest := []) ⟨hx, hb, hml, hown, hw⟩ (k_M_isField l D ad ca _ a0 v u  q1 hq1) (zcV (C := RX6) 1 hw (zgood zw142) rfl rfl rfl zw7 zw144 zw143 zw145 hdX6_isField ⟨Nat.le_of_ble_eq_true rfl, Nat.le_of_ble_eq_true rfl⟩) (zpreV (zpre zN_ok trivial hS (zfree hD hS hA) hP hK hD) (va_recv hK hP rfl (q0 := 0) rfl)) rfl rfl hl.1 rfl (lv_room (Nat.le_of_ble_eq_true rfl)) dX6_isByte_2 ⟨Nat.zero_le _, Nat.zero_le _⟩) hS (zfree hD hS hA) (fun H locs hP hD hS => ?_)
  refine lv_if_eq (tgt := 26) hx hb dX6_isByte_5 rfl (fun cd2 => ?_) (fun cd2 => ?_)
  · replace hm := zt cd2 hm
    refine lv_iconst (v := 0) hx hb dX6_isByte_26 (by decide) ?_
    obtain ⟨hz3, -, hm⟩ := zbo_s hm
    cases hm
    exact zretz hx hb hr hlk hz3 hP hD hS dX6_isByte_27
  · replace hm := zf cd2 hm
    refine lv_iload_n hx hb dX6_isByte_8 rfl (lv_at hl 2 rfl) ?_
    refine lv_if_lt (tgt := 26) hx hb dX6_isByte_9 rfl (fun cd4 => ?_) (fun cd4 => ?_)
    · replace hm := zt cd4 hm
      refine lv_iconst (v := 0) hx hb dX6_isByte_26 (by decide) ?_
      obtain ⟨hz5, -, hm⟩ := zbo_s hm
      cases hm
      exact zretz hx hb hr hlk hz5 hP hD hS dX6_isByte_27
    · replace hm := zf cd4 hm
      refine lv_iload_n hx hb dX6_isByte_12 rfl (lv_at hl 2 rfl) ?_
      refine lv_aload_n hx hb dX6_isByte_13 rfl (lv_at hl 0 rfl) ?_
      refine va_get (D := D) (ci := 5) (v := .ref (ad 15)) (C := RX6) (T := TX6) (N := 24) hx hb hw zinX6 hown hK hP 0 rfl rfl 17 (by decide) (hw _ zw50) (fun _ h9 => h9) rfl dX6_isByte_14 ?_
      refine lv_iload_n hx hb dX6_isByte_17 rfl (lv_at hl 1 rfl) ?_
      obtain ⟨hi6, hm⟩ := zix_s hm
      refine va_iald (i := a0) (f := (u 15)) (n := 9) hx hb hK hP 15 14 rfl rfl hi6 dX6_isByte_18 ?_
      refine lv_icmp_ge (tgt := 26) hx hb dX6_isByte_19 rfl (fun cd7 => ?_) (fun cd7 => ?_)
      · replace hm := zt cd7 hm
        refine lv_iconst (v := 0) hx hb dX6_isByte_26 (by decide) ?_
        obtain ⟨hz8, -, hm⟩ := zbo_s hm
        cases hm
        exact zretz hx hb hr hlk hz8 hP hD hS dX6_isByte_27
      · replace hm := zf cd7 hm
        refine lv_iconst (v := 1) hx hb dX6_isByte_22 (by decide) ?_
        refine lv_goto (tgt := 27) hx hb dX6_isByte_23 rfl ?_
        obtain ⟨hz9, -, hm⟩ := zbo_s hm
        cases hm
        exact zretz hx hb hr hlk hz9 hP hD hS dX6_isByte_27

theorem dX6_get_0 : decode cX6_get 0 = .ok (.aload_n 0, 1) := by decide +kernel
theorem dX6_get_1 : decode cX6_get 1 = .ok (.aload_n 0, 1) := by decide +kernel
theorem dX6_get_2 : decode cX6_get 2 = .ok (.iload_n 1, 1) := by decide +kernel
theorem dX6_get_3 : decode cX6_get 3 = .ok (.iload_n 2, 1) := by decide +kernel
theorem dX6_get_4 : decode cX6_get 4 = .ok (.invokevirtual 158, 3) := by decide +kernel
theorem dX6_get_7 : decode cX6_get 7 = .ok (.ifCond .ne 7, 3) := by decide +kernel
theorem dX6_get_10 : decode cX6_get 10 = .ok (.iconst 1, 1) := by decide +kernel
theorem dX6_get_11 : decode cX6_get 11 = .ok (.goto 4, 3) := by decide +kernel
theorem dX6_get_14 : decode cX6_get 14 = .ok (.iconst 0, 1) := by decide +kernel
theorem dX6_get_15 : decode cX6_get 15 = .ok (.iconst 0, 1) := by decide +kernel
theorem dX6_get_16 : decode cX6_get 16 = .ok (.iconst 0, 1) := by decide +kernel
theorem dX6_get_17 : decode cX6_get 17 = .ok (.invokevirtual 135, 3) := by decide +kernel
theorem dX6_get_20 : decode cX6_get 20 = .ok (.ifCond .eq 7, 3) := by decide +kernel
theorem dX6_get_23 : decode cX6_get 23 = .ok (.iconst 0, 1) := by decide +kernel
theorem dX6_get_24 : decode cX6_get 24 = .ok (.goto 14, 3) := by decide +kernel
theorem dX6_get_27 : decode cX6_get 27 = .ok (.aload_n 0, 1) := by decide +kernel
theorem dX6_get_28 : decode cX6_get 28 = .ok (.getfield 56, 3) := by decide +kernel
theorem dX6_get_31 : decode cX6_get 31 = .ok (.bipush 32, 2) := by decide +kernel
theorem dX6_get_33 : decode cX6_get 33 = .ok (.iload_n 1, 1) := by decide +kernel
theorem dX6_get_34 : decode cX6_get 34 = .ok (.imul, 1) := by decide +kernel
theorem dX6_get_35 : decode cX6_get 35 = .ok (.iload_n 2, 1) := by decide +kernel
theorem dX6_get_36 : decode cX6_get 36 = .ok (.iadd, 1) := by decide +kernel
theorem dX6_get_37 : decode cX6_get 37 = .ok (.iaload, 1) := by decide +kernel
theorem dX6_get_38 : decode cX6_get 38 = .ok (.ireturn, 1) := by decide +kernel
def m_M_get_15 (u : Nat → Nat → Int32) (x1 : Int32) (x2 : Int32) (t0 : Int32) (v : Nat → Int32) : Option ((Int32) × (Nat → Int32)) := (m_M_fails t0 0 0 v u).bind (fun q3 => (if q3.1 = 0 then zix ((32 * x1) + x2) 256 ((some (((u 16) ((32 * x1) + x2).toNatClampNeg), q3.2))) else (some (0, q3.2))))
def m_M_get (a0 : Int32) (a1 : Int32) (v : Nat → Int32) (u : Nat → Nat → Int32)  : Option ((Int32) × (Nat → Int32)) := (m_M_isByte a0 a1 v u).bind (fun q1 => (if q1 = 0 then m_M_get_15 u a0 a1 1 v else m_M_get_15 u a0 a1 0 v))
section
variable {p : Program} {l : Launch} {e : Env} {s : State} {m : MethodId} {args : Array Value} {below : List Frame} {meth : Method} {c : Code} {D : va_G} {w0 : va_W} {ad : Nat → Nat} {ca : Nat → ClassId} {u : Nat → Nat → Int32}
set_option maxRecDepth 100000 in
set_option maxHeartbeats 4000000 in
theorem b_M_get_15 (G : zG p s m args meth c cX6_get RX6 3 (some .int)) (hK : va_K D vwCl (wM_t ca) s) (hX : zN (va_A w0 s.heap.size) s) {res : (Int32) × (Nat → Int32)} : ∀ (x1 : Int32) (x2 : Int32) (t0 : Int32) (v : Nat → Int32), m_M_get_15 u x1 x2 t0 v = some res → zB p l e (zR 2 43) s m args below meth c D vwCl (va_A w0 s.heap.size) (MQ below (zQi D vwCl w0 (wM ad ca res.2 u) s.heap.size res.1) args s 0 0 (va_A w0 s.heap.size)) 3 (wM ad ca v u) [(0, .ref (ad 0)), (1, .int x1), (2, .int x2)] 15 [.int t0, .ref (ad 0)] := by
  intro x1 x2 t0 v hm H locs ls hP hD hS hl
  unfold m_M_get_15 at hm
  have G0 := G
  obtain ⟨hx, hb, hr, hml, hown, hw, hlk⟩ := G
  have hA : ∀ q, s.heap.size ≤ q → va_A w0 s.heap.size q := fun q h => Or.inr h
  refine lv_iconst (v := 0) hx hb dX6_get_15 (by decide) ?_
  refine lv_iconst (v := 0) hx hb dX6_get_16 (by decide) ?_
  obtain ⟨q3, hq3, hm⟩ := zbind hm
  refine zbWi (va_runV (As := [.int t0, .int 0, .int 0]) (rest := []) ⟨hx, hb, hml, hown, hw⟩ (k_M_fails l D ad ca _ t0 0 0 v u  q3 hq3) (zcV (C := RX6) 3 hw (zgood zw122) rfl rfl rfl zw7 zw124 zw123 zw125 hdX6_fails ⟨Nat.le_of_ble_eq_true rfl, Nat.le_of_ble_eq_true rfl⟩) (zpreV (zpre zN_ok trivial hS (zfree hD hS hA) hP hK hD) (va_recv hK hP rfl (q0 := 0) rfl)) rfl rfl hl.1 rfl (lv_room (Nat.le_of_ble_eq_true rfl)) dX6_get_17 ⟨Nat.zero_le _, Nat.zero_le _⟩) hS (zfree hD hS hA) (fun H locs hP hD hS => ?_)
  have hP : va_P D vwCl (wM ad ca q3.2 u) H := hP
  have hD : va_D _ (wM ad ca q3.2 u) := hD
  refine lv_if_eq (tgt := 27) hx hb dX6_get_20 rfl (fun cd4 => ?_) (fun cd4 => ?_)
  · replace hm := zt cd4 hm
    refine lv_aload_n hx hb dX6_get_27 rfl (lv_at hl 0 rfl) ?_
    refine va_get (D := D) (ci := 5) (v := .ref (ad 16)) (C := RX6) (T := TX6) (N := 24) hx hb hw zinX6 hown hK hP 0 rfl rfl 18 (by decide) (hw _ zw114) (fun _ h9 => h9) rfl dX6_get_28 ?_
    refine lv_bipush (v := 32) hx hb dX6_get_31 (by decide) ?_
    refine lv_iload_n hx hb dX6_get_33 rfl (lv_at hl 1 rfl) ?_
    refine lv_imul hx hb dX6_get_34 ?_
    refine lv_iload_n hx hb dX6_get_35 rfl (lv_at hl 2 rfl) ?_
    refine lv_iadd hx hb dX6_get_36 ?_
    obtain ⟨hi5, hm⟩ := zix_s hm
    refine va_iald (i := ((32 * x1) + x2)) (f := (u 16)) (n := 256) hx hb hK hP 16 15 rfl rfl hi5 dX6_get_37 ?_
    cases hm
    exact zreti hx hb hr hlk hP hD hS dX6_get_38
  · replace hm := zf cd4 hm
    refine lv_iconst (v := 0) hx hb dX6_get_23 (by decide) ?_
    refine lv_goto (tgt := 38) hx hb dX6_get_24 rfl ?_
    cases hm
    exact zreti hx hb hr hlk hP hD hS dX6_get_38
end
set_option maxRecDepth 100000 in
set_option maxHeartbeats 4000000 in
theorem k_M_get (l : Launch) (D : va_G) (ad : Nat → Nat) (ca : Nat → ClassId) (sz : Nat) (a0 : Int32) (a1 : Int32) (v : Nat → Int32) (u : Nat → Nat → Int32) (res : (Int32) × (Nat → Int32)) (hm : m_M_get a0 a1 v u  = some res) : Met l yX6_get (Cond.code yX6_get cX6_get 3 (some .int) :: zBIG) (zR 2 43) (va_Pc [.ref (ad 0), .int a0, .int a1] (zP zN D vwCl (wM_t ca) (wM ad ca v u) sz)) (zQi D vwCl (wM ad ca v u) (wM ad ca res.2 u) sz res.1) 0 0 (va_A (wM ad ca v u) sz) := by
  refine zEnter RX6 [.ref (ad 0), .int a0, .int a1] (by decide) rfl (Nat.le_of_ble_eq_true rfl) (fun p e s m below meth c ls G hK hX hP hD hsz hl => ?_)
  subst hsz
  unfold m_M_get at hm
  have hl : lv_has ls 3 [(0, .ref (ad 0)), (1, .int a0), (2, .int a1)] := hl
  have hS : va_S (va_A (wM ad ca v u) s.heap.size) s.heap s.heap [] := va_S.rf
  have hA : ∀ q, s.heap.size ≤ q → va_A (wM ad ca v u) s.heap.size q := fun q h => Or.inr h
  have G0 := G
  obtain ⟨hx, hb, hr, hml, hown, hw, hlk⟩ := G
  refine lv_aload_n hx hb dX6_get_0 rfl (lv_at hl 0 rfl) ?_
  refine lv_aload_n hx hb dX6_get_1 rfl (lv_at hl 0 rfl) ?_
  refine lv_iload_n hx hb dX6_get_2 rfl (lv_at hl 1 rfl) ?_
  refine lv_iload_n hx hb dX6_get_3 rfl (lv_at hl 2 rfl) ?_
  obtain ⟨q1, hq1, hm⟩ := zbind hm
  refine zbWi (va_runV (As := [.int a0, .int a1]) (rest := [.ref (ad 0)]) ⟨hx, hb, hml, hown, hw⟩ (k_M_isByte l D ad ca _ a0 a1 v u  q1 hq1) (zcV (C := RX6) 2 hw (zgood zw146) rfl rfl rfl zw7 zw148 zw147 zw149 hdX6_isByte ⟨Nat.le_of_ble_eq_true rfl, Nat.le_of_ble_eq_true rfl⟩) (zpreV (zpre zN_ok trivial hS (zfree hD hS hA) hP hK hD) (va_recv hK hP rfl (q0 := 0) rfl)) rfl rfl hl.1 rfl (lv_room (Nat.le_of_ble_eq_true rfl)) dX6_get_4 ⟨Nat.zero_le _, Nat.zero_le _⟩) hS (zfree hD hS hA) (fun H locs hP hD hS => ?_)
  refine lv_if_ne (tgt := 14) hx hb dX6_get_7 rfl (fun cd2 => ?_) (fun cd2 => ?_)
  · replace hm := zf cd2 hm
    refine lv_iconst (v := 0) hx hb dX6_get_14 (by decide) ?_
    exact b_M_get_15 G0 hK hX _ _ _ _ hm _ _ _ hP hD hS hl
  · replace hm := zt cd2 hm
    refine lv_iconst (v := 1) hx hb dX6_get_10 (by decide) ?_
    refine lv_goto (tgt := 15) hx hb dX6_get_11 rfl ?_
    exact b_M_get_15 G0 hK hX _ _ _ _ hm _ _ _ hP hD hS hl

theorem dX6_set_0 : decode cX6_set 0 = .ok (.aload_n 0, 1) := by decide +kernel
theorem dX6_set_1 : decode cX6_set 1 = .ok (.aload_n 0, 1) := by decide +kernel
theorem dX6_set_2 : decode cX6_set 2 = .ok (.iload_n 1, 1) := by decide +kernel
theorem dX6_set_3 : decode cX6_set 3 = .ok (.iload_n 2, 1) := by decide +kernel
theorem dX6_set_4 : decode cX6_set 4 = .ok (.invokevirtual 158, 3) := by decide +kernel
theorem dX6_set_7 : decode cX6_set 7 = .ok (.ifCond .ne 7, 3) := by decide +kernel
theorem dX6_set_10 : decode cX6_set 10 = .ok (.iconst 1, 1) := by decide +kernel
theorem dX6_set_11 : decode cX6_set 11 = .ok (.goto 4, 3) := by decide +kernel
theorem dX6_set_14 : decode cX6_set 14 = .ok (.iconst 0, 1) := by decide +kernel
theorem dX6_set_15 : decode cX6_set 15 = .ok (.iload_n 3, 1) := by decide +kernel
theorem dX6_set_16 : decode cX6_set 16 = .ok (.ifCond .lt 10, 3) := by decide +kernel
theorem dX6_set_19 : decode cX6_set 19 = .ok (.iload_n 3, 1) := by decide +kernel
theorem dX6_set_20 : decode cX6_set 20 = .ok (.sipush 255, 3) := by decide +kernel
theorem dX6_set_23 : decode cX6_set 23 = .ok (.if_icmp .le 7, 3) := by decide +kernel
theorem dX6_set_26 : decode cX6_set 26 = .ok (.iconst 1, 1) := by decide +kernel
theorem dX6_set_27 : decode cX6_set 27 = .ok (.goto 4, 3) := by decide +kernel
theorem dX6_set_30 : decode cX6_set 30 = .ok (.iconst 0, 1) := by decide +kernel
theorem dX6_set_31 : decode cX6_set 31 = .ok (.iconst 0, 1) := by decide +kernel
theorem dX6_set_32 : decode cX6_set 32 = .ok (.invokevirtual 135, 3) := by decide +kernel
theorem dX6_set_35 : decode cX6_set 35 = .ok (.ifCond .ne 15, 3) := by decide +kernel
theorem dX6_set_38 : decode cX6_set 38 = .ok (.aload_n 0, 1) := by decide +kernel
theorem dX6_set_39 : decode cX6_set 39 = .ok (.getfield 56, 3) := by decide +kernel
theorem dX6_set_42 : decode cX6_set 42 = .ok (.bipush 32, 2) := by decide +kernel
theorem dX6_set_44 : decode cX6_set 44 = .ok (.iload_n 1, 1) := by decide +kernel
theorem dX6_set_45 : decode cX6_set 45 = .ok (.imul, 1) := by decide +kernel
theorem dX6_set_46 : decode cX6_set 46 = .ok (.iload_n 2, 1) := by decide +kernel
theorem dX6_set_47 : decode cX6_set 47 = .ok (.iadd, 1) := by decide +kernel
theorem dX6_set_48 : decode cX6_set 48 = .ok (.iload_n 3, 1) := by decide +kernel
theorem dX6_set_49 : decode cX6_set 49 = .ok (.iastore, 1) := by decide +kernel
theorem dX6_set_50 : decode cX6_set 50 = .ok (.return_, 1) := by decide +kernel
def m_M_set_31  (x1 : Int32) (x2 : Int32) (x3 : Int32) (t0 : Int32) (t1 : Int32) (v : Nat → Int32) (u : Nat → Nat → Int32) : Option ((Nat → Int32) × (Nat → Nat → Int32)) := (m_M_fails t1 t0 0 v u).bind (fun q4 => (if q4.1 = 0 then zix ((32 * x1) + x2) 256 ((some (q4.2, (zau u 16 ((32 * x1) + x2) x3)))) else (some (q4.2, u))))
def m_M_set_26  (x1 : Int32) (x2 : Int32) (x3 : Int32) (t0 : Int32) (v : Nat → Int32) (u : Nat → Nat → Int32) : Option ((Nat → Int32) × (Nat → Nat → Int32)) := m_M_set_31  x1 x2 x3 1 t0 v u
def m_M_set_15  (x1 : Int32) (x2 : Int32) (x3 : Int32) (t0 : Int32) (v : Nat → Int32) (u : Nat → Nat → Int32) : Option ((Nat → Int32) × (Nat → Nat → Int32)) := (if x3 < 0 then m_M_set_26  x1 x2 x3 t0 v u else (if x3 ≤ 255 then m_M_set_31  x1 x2 x3 0 t0 v u else m_M_set_26  x1 x2 x3 t0 v u))
def m_M_set (a0 : Int32) (a1 : Int32) (a2 : Int32) (v : Nat → Int32) (u : Nat → Nat → Int32)  : Option ((Nat → Int32) × (Nat → Nat → Int32)) := (m_M_isByte a0 a1 v u).bind (fun q1 => (if q1 = 0 then m_M_set_15  a0 a1 a2 1 v u else m_M_set_15  a0 a1 a2 0 v u))
section
variable {p : Program} {l : Launch} {e : Env} {s : State} {m : MethodId} {args : Array Value} {below : List Frame} {meth : Method} {c : Code} {D : va_G} {w0 : va_W} {ad : Nat → Nat} {ca : Nat → ClassId}
set_option maxRecDepth 100000 in
set_option maxHeartbeats 4000000 in
theorem b_M_set_31 (G : zG p s m args meth c cX6_set RX6 4 none) (hK : va_K D vwCl (wM_t ca) s) (hX : zN (va_A w0 s.heap.size) s) {res : (Nat → Int32) × (Nat → Nat → Int32)} : ∀ (x1 : Int32) (x2 : Int32) (x3 : Int32) (t0 : Int32) (t1 : Int32) (v : Nat → Int32) (u : Nat → Nat → Int32), m_M_set_31  x1 x2 x3 t0 t1 v u = some res → zB p l e (zR 2 43) s m args below meth c D vwCl (va_A w0 s.heap.size) (MQ below (zQv D vwCl w0 (wM ad ca res.1 res.2) s.heap.size) args s 0 0 (va_A w0 s.heap.size)) 4 (wM ad ca v u) [(0, .ref (ad 0)), (1, .int x1), (2, .int x2), (3, .int x3)] 31 [.int t0, .int t1, .ref (ad 0)] := by
  intro x1 x2 x3 t0 t1 v u hm H locs ls hP hD hS hl
  unfold m_M_set_31 at hm
  have G0 := G
  obtain ⟨hx, hb, hr, hml, hown, hw, hlk⟩ := G
  have hA : ∀ q, s.heap.size ≤ q → va_A w0 s.heap.size q := fun q h => Or.inr h
  refine lv_iconst (v := 0) hx hb dX6_set_31 (by decide) ?_
  obtain ⟨q4, hq4, hm⟩ := zbind hm
  refine zbWi (va_runV (As := [.int t1, .int t0, .int 0]) (rest := []) ⟨hx, hb, hml, hown, hw⟩ (k_M_fails l D ad ca _ t1 t0 0 v u  q4 hq4) (zcV (C := RX6) 3 hw (zgood zw122) rfl rfl rfl zw7 zw124 zw123 zw125 hdX6_fails ⟨Nat.le_of_ble_eq_true rfl, Nat.le_of_ble_eq_true rfl⟩) (zpreV (zpre zN_ok trivial hS (zfree hD hS hA) hP hK hD) (va_recv hK hP rfl (q0 := 0) rfl)) rfl rfl hl.1 rfl (lv_room (Nat.le_of_ble_eq_true rfl)) dX6_set_32 ⟨Nat.zero_le _, Nat.zero_le _⟩) hS (zfree hD hS hA) (fun H locs hP hD hS => ?_)
  have hP : va_P D vwCl (wM ad ca q4.2 u) H := hP
  have hD : va_D _ (wM ad ca q4.2 u) := hD
  refine lv_if_ne (tgt := 50) hx hb dX6_set_35 rfl (fun cd5 => ?_) (fun cd5 => ?_)
  · replace hm := zf cd5 hm
    cases hm
    exact zretv hx hb hr hlk hP hD hS dX6_set_50
  · replace hm := zt cd5 hm
    refine lv_aload_n hx hb dX6_set_38 rfl (lv_at hl 0 rfl) ?_
    refine va_get (D := D) (ci := 5) (v := .ref (ad 16)) (C := RX6) (T := TX6) (N := 24) hx hb hw zinX6 hown hK hP 0 rfl rfl 18 (by decide) (hw _ zw114) (fun _ h9 => h9) rfl dX6_set_39 ?_
    refine lv_bipush (v := 32) hx hb dX6_set_42 (by decide) ?_
    refine lv_iload_n hx hb dX6_set_44 rfl (lv_at hl 1 rfl) ?_
    refine lv_imul hx hb dX6_set_45 ?_
    refine lv_iload_n hx hb dX6_set_46 rfl (lv_at hl 2 rfl) ?_
    refine lv_iadd hx hb dX6_set_47 ?_
    refine lv_iload_n hx hb dX6_set_48 rfl (lv_at hl 3 rfl) ?_
    obtain ⟨hi6, hm⟩ := zix_s hm
    refine va_iast (i := ((32 * x1) + x2)) (x := x3) (f := (u 16)) (n := 256) hx hb hK hP hD hS 16 15 rfl rfl hi6 dX6_set_49 (fun H locs hP hD hS => ?_)
    have hP : va_P D vwCl (wM ad ca q4.2 (zau u 16 ((32 * x1) + x2) x3)) H := hP
    have hD : va_D _ (wM ad ca q4.2 (zau u 16 ((32 * x1) + x2) x3)) := hD
    cases hm
    exact zretv hx hb hr hlk hP hD hS dX6_set_50
set_option maxRecDepth 100000 in
set_option maxHeartbeats 4000000 in
theorem b_M_set_26 (G : zG p s m args meth c cX6_set RX6 4 none) (hK : va_K D vwCl (wM_t ca) s) (hX : zN (va_A w0 s.heap.size) s) {res : (Nat → Int32) × (Nat → Nat → Int32)} : ∀ (x1 : Int32) (x2 : Int32) (x3 : Int32) (t0 : Int32) (v : Nat → Int32) (u : Nat → Nat → Int32), m_M_set_26  x1 x2 x3 t0 v u = some res → zB p l e (zR 2 43) s m args below meth c D vwCl (va_A w0 s.heap.size) (MQ below (zQv D vwCl w0 (wM ad ca res.1 res.2) s.heap.size) args s 0 0 (va_A w0 s.heap.size)) 4 (wM ad ca v u) [(0, .ref (ad 0)), (1, .int x1), (2, .int x2), (3, .int x3)] 26 [.int t0, .ref (ad 0)] := by
  intro x1 x2 x3 t0 v u hm H locs ls hP hD hS hl
  unfold m_M_set_26 at hm
  have G0 := G
  obtain ⟨hx, hb, hr, hml, hown, hw, hlk⟩ := G
  have hA : ∀ q, s.heap.size ≤ q → va_A w0 s.heap.size q := fun q h => Or.inr h
  refine lv_iconst (v := 1) hx hb dX6_set_26 (by decide) ?_
  refine lv_goto (tgt := 31) hx hb dX6_set_27 rfl ?_
  exact b_M_set_31 G0 hK hX _ _ _ _ _ _ _ hm H _ _ hP hD hS hl
set_option maxRecDepth 100000 in
set_option maxHeartbeats 4000000 in
theorem b_M_set_15 (G : zG p s m args meth c cX6_set RX6 4 none) (hK : va_K D vwCl (wM_t ca) s) (hX : zN (va_A w0 s.heap.size) s) {res : (Nat → Int32) × (Nat → Nat → Int32)} : ∀ (x1 : Int32) (x2 : Int32) (x3 : Int32) (t0 : Int32) (v : Nat → Int32) (u : Nat → Nat → Int32), m_M_set_15  x1 x2 x3 t0 v u = some res → zB p l e (zR 2 43) s m args below meth c D vwCl (va_A w0 s.heap.size) (MQ below (zQv D vwCl w0 (wM ad ca res.1 res.2) s.heap.size) args s 0 0 (va_A w0 s.heap.size)) 4 (wM ad ca v u) [(0, .ref (ad 0)), (1, .int x1), (2, .int x2), (3, .int x3)] 15 [.int t0, .ref (ad 0)] := by
  intro x1 x2 x3 t0 v u hm H locs ls hP hD hS hl
  unfold m_M_set_15 at hm
  have G0 := G
  obtain ⟨hx, hb, hr, hml, hown, hw, hlk⟩ := G
  have hA : ∀ q, s.heap.size ≤ q → va_A w0 s.heap.size q := fun q h => Or.inr h
  refine lv_iload_n hx hb dX6_set_15 rfl (lv_at hl 3 rfl) ?_
  refine lv_if_lt (tgt := 26) hx hb dX6_set_16 rfl (fun cd3 => ?_) (fun cd3 => ?_)
  · replace hm := zt cd3 hm
    exact b_M_set_26 G0 hK hX _ _ _ _ _ _ hm H _ _ hP hD hS hl
  · replace hm := zf cd3 hm
    refine lv_iload_n hx hb dX6_set_19 rfl (lv_at hl 3 rfl) ?_
    refine lv_sipush (v := 255) hx hb dX6_set_20 (by decide) ?_
    refine lv_icmp_le (tgt := 30) hx hb dX6_set_23 rfl (fun cd7 => ?_) (fun cd7 => ?_)
    · replace hm := zt cd7 hm
      refine lv_iconst (v := 0) hx hb dX6_set_30 (by decide) ?_
      exact b_M_set_31 G0 hK hX _ _ _ _ _ _ _ hm H _ _ hP hD hS hl
    · replace hm := zf cd7 hm
      exact b_M_set_26 G0 hK hX _ _ _ _ _ _ hm H _ _ hP hD hS hl
end
set_option maxRecDepth 100000 in
set_option maxHeartbeats 4000000 in
theorem k_M_set (l : Launch) (D : va_G) (ad : Nat → Nat) (ca : Nat → ClassId) (sz : Nat) (a0 : Int32) (a1 : Int32) (a2 : Int32) (v : Nat → Int32) (u : Nat → Nat → Int32) (res : (Nat → Int32) × (Nat → Nat → Int32)) (hm : m_M_set a0 a1 a2 v u  = some res) : Met l yX6_set (Cond.code yX6_set cX6_set 4 none :: zBIG) (zR 2 43) (va_Pc [.ref (ad 0), .int a0, .int a1, .int a2] (zP zN D vwCl (wM_t ca) (wM ad ca v u) sz)) (zQv D vwCl (wM ad ca v u) (wM ad ca res.1 res.2) sz) 0 0 (va_A (wM ad ca v u) sz) := by
  refine zEnter RX6 [.ref (ad 0), .int a0, .int a1, .int a2] (by decide) rfl (Nat.le_of_ble_eq_true rfl) (fun p e s m below meth c ls G hK hX hP hD hsz hl => ?_)
  subst hsz
  unfold m_M_set at hm
  have hl : lv_has ls 4 [(0, .ref (ad 0)), (1, .int a0), (2, .int a1), (3, .int a2)] := hl
  have hS : va_S (va_A (wM ad ca v u) s.heap.size) s.heap s.heap [] := va_S.rf
  have hA : ∀ q, s.heap.size ≤ q → va_A (wM ad ca v u) s.heap.size q := fun q h => Or.inr h
  have G0 := G
  obtain ⟨hx, hb, hr, hml, hown, hw, hlk⟩ := G
  refine lv_aload_n hx hb dX6_set_0 rfl (lv_at hl 0 rfl) ?_
  refine lv_aload_n hx hb dX6_set_1 rfl (lv_at hl 0 rfl) ?_
  refine lv_iload_n hx hb dX6_set_2 rfl (lv_at hl 1 rfl) ?_
  refine lv_iload_n hx hb dX6_set_3 rfl (lv_at hl 2 rfl) ?_
  obtain ⟨q1, hq1, hm⟩ := zbind hm
  refine zbWi (va_runV (As := [.int a0, .int a1]) (rest := [.ref (ad 0)]) ⟨hx, hb, hml, hown, hw⟩ (k_M_isByte l D ad ca _ a0 a1 v u  q1 hq1) (zcV (C := RX6) 2 hw (zgood zw146) rfl rfl rfl zw7 zw148 zw147 zw149 hdX6_isByte ⟨Nat.le_of_ble_eq_true rfl, Nat.le_of_ble_eq_true rfl⟩) (zpreV (zpre zN_ok trivial hS (zfree hD hS hA) hP hK hD) (va_recv hK hP rfl (q0 := 0) rfl)) rfl rfl hl.1 rfl (lv_room (Nat.le_of_ble_eq_true rfl)) dX6_set_4 ⟨Nat.zero_le _, Nat.zero_le _⟩) hS (zfree hD hS hA) (fun H locs hP hD hS => ?_)
  refine lv_if_ne (tgt := 14) hx hb dX6_set_7 rfl (fun cd2 => ?_) (fun cd2 => ?_)
  · replace hm := zf cd2 hm
    refine lv_iconst (v := 0) hx hb dX6_set_14 (by decide) ?_
    exact b_M_set_15 G0 hK hX _ _ _ _ _ _ hm _ _ _ hP hD hS hl
  · replace hm := zt cd2 hm
    refine lv_iconst (v := 1) hx hb dX6_set_10 (by decide) ?_
    refine lv_goto (tgt := 15) hx hb dX6_set_11 rfl ?_
    exact b_M_set_15 G0 hK hX _ _ _ _ _ _ hm _ _ _ hP hD hS hl

theorem dX6_takeDigits_0 : decode cX6_takeDigits 0 = .ok (.iconst 0, 1) := by decide +kernel
theorem dX6_takeDigits_1 : decode cX6_takeDigits 1 = .ok (.istore_n 2, 1) := by decide +kernel
theorem dX6_takeDigits_2 : decode cX6_takeDigits 2 = .ok (.iconst 0, 1) := by decide +kernel
theorem dX6_takeDigits_3 : decode cX6_takeDigits 3 = .ok (.istore_n 3, 1) := by decide +kernel
theorem dX6_takeDigits_4 : decode cX6_takeDigits 4 = .ok (.iload_n 3, 1) := by decide +kernel
theorem dX6_takeDigits_5 : decode cX6_takeDigits 5 = .ok (.aload_n 0, 1) := by decide +kernel
theorem dX6_takeDigits_6 : decode cX6_takeDigits 6 = .ok (.getfield 13, 3) := by decide +kernel
theorem dX6_takeDigits_9 : decode cX6_takeDigits 9 = .ok (.iload_n 1, 1) := by decide +kernel
theorem dX6_takeDigits_10 : decode cX6_takeDigits 10 = .ok (.iaload, 1) := by decide +kernel
theorem dX6_takeDigits_11 : decode cX6_takeDigits 11 = .ok (.if_icmp .ge 28, 3) := by decide +kernel
theorem dX6_takeDigits_14 : decode cX6_takeDigits 14 = .ok (.iload_n 2, 1) := by decide +kernel
theorem dX6_takeDigits_15 : decode cX6_takeDigits 15 = .ok (.aload_n 0, 1) := by decide +kernel
theorem dX6_takeDigits_16 : decode cX6_takeDigits 16 = .ok (.iload_n 1, 1) := by decide +kernel
theorem dX6_takeDigits_17 : decode cX6_takeDigits 17 = .ok (.iload_n 3, 1) := by decide +kernel
theorem dX6_takeDigits_18 : decode cX6_takeDigits 18 = .ok (.invokevirtual 93, 3) := by decide +kernel
theorem dX6_takeDigits_21 : decode cX6_takeDigits 21 = .ok (.bipush 57, 2) := by decide +kernel
theorem dX6_takeDigits_23 : decode cX6_takeDigits 23 = .ok (.if_icmp .ne 7, 3) := by decide +kernel
theorem dX6_takeDigits_26 : decode cX6_takeDigits 26 = .ok (.iconst 1, 1) := by decide +kernel
theorem dX6_takeDigits_27 : decode cX6_takeDigits 27 = .ok (.goto 4, 3) := by decide +kernel
theorem dX6_takeDigits_30 : decode cX6_takeDigits 30 = .ok (.iconst 0, 1) := by decide +kernel
theorem dX6_takeDigits_31 : decode cX6_takeDigits 31 = .ok (.iadd, 1) := by decide +kernel
theorem dX6_takeDigits_32 : decode cX6_takeDigits 32 = .ok (.istore_n 2, 1) := by decide +kernel
theorem dX6_takeDigits_33 : decode cX6_takeDigits 33 = .ok (.iinc 3 1, 3) := by decide +kernel
theorem dX6_takeDigits_36 : decode cX6_takeDigits 36 = .ok (.goto (-32), 3) := by decide +kernel
theorem dX6_takeDigits_39 : decode cX6_takeDigits 39 = .ok (.bipush 32, 2) := by decide +kernel
theorem dX6_takeDigits_41 : decode cX6_takeDigits 41 = .ok (.iload_n 1, 1) := by decide +kernel
theorem dX6_takeDigits_42 : decode cX6_takeDigits 42 = .ok (.imul, 1) := by decide +kernel
theorem dX6_takeDigits_43 : decode cX6_takeDigits 43 = .ok (.istore_n 3, 1) := by decide +kernel
theorem dX6_takeDigits_44 : decode cX6_takeDigits 44 = .ok (.aload_n 0, 1) := by decide +kernel
theorem dX6_takeDigits_45 : decode cX6_takeDigits 45 = .ok (.getfield 56, 3) := by decide +kernel
theorem dX6_takeDigits_48 : decode cX6_takeDigits 48 = .ok (.iload_n 3, 1) := by decide +kernel
theorem dX6_takeDigits_49 : decode cX6_takeDigits 49 = .ok (.aload_n 0, 1) := by decide +kernel
theorem dX6_takeDigits_50 : decode cX6_takeDigits 50 = .ok (.getfield 53, 3) := by decide +kernel
theorem dX6_takeDigits_53 : decode cX6_takeDigits 53 = .ok (.iload_n 1, 1) := by decide +kernel
theorem dX6_takeDigits_54 : decode cX6_takeDigits 54 = .ok (.iaload, 1) := by decide +kernel
theorem dX6_takeDigits_55 : decode cX6_takeDigits 55 = .ok (.iadd, 1) := by decide +kernel
theorem dX6_takeDigits_56 : decode cX6_takeDigits 56 = .ok (.iconst 1, 1) := by decide +kernel
theorem dX6_takeDigits_57 : decode cX6_takeDigits 57 = .ok (.isub, 1) := by decide +kernel
theorem dX6_takeDigits_58 : decode cX6_takeDigits 58 = .ok (.iaload, 1) := by decide +kernel
theorem dX6_takeDigits_59 : decode cX6_takeDigits 59 = .ok (.istore 4, 2) := by decide +kernel
theorem dX6_takeDigits_61 : decode cX6_takeDigits 61 = .ok (.iconst 2, 1) := by decide +kernel
theorem dX6_takeDigits_62 : decode cX6_takeDigits 62 = .ok (.aload_n 0, 1) := by decide +kernel
theorem dX6_takeDigits_63 : decode cX6_takeDigits 63 = .ok (.getfield 53, 3) := by decide +kernel
theorem dX6_takeDigits_66 : decode cX6_takeDigits 66 = .ok (.iload_n 1, 1) := by decide +kernel
theorem dX6_takeDigits_67 : decode cX6_takeDigits 67 = .ok (.iaload, 1) := by decide +kernel
theorem dX6_takeDigits_68 : decode cX6_takeDigits 68 = .ok (.imul, 1) := by decide +kernel
theorem dX6_takeDigits_69 : decode cX6_takeDigits 69 = .ok (.iload_n 2, 1) := by decide +kernel
theorem dX6_takeDigits_70 : decode cX6_takeDigits 70 = .ok (.isub, 1) := by decide +kernel
theorem dX6_takeDigits_71 : decode cX6_takeDigits 71 = .ok (.iconst 1, 1) := by decide +kernel
theorem dX6_takeDigits_72 : decode cX6_takeDigits 72 = .ok (.isub, 1) := by decide +kernel
theorem dX6_takeDigits_73 : decode cX6_takeDigits 73 = .ok (.istore 5, 2) := by decide +kernel
theorem dX6_takeDigits_75 : decode cX6_takeDigits 75 = .ok (.iconst 0, 1) := by decide +kernel
theorem dX6_takeDigits_76 : decode cX6_takeDigits 76 = .ok (.istore 6, 2) := by decide +kernel
theorem dX6_takeDigits_78 : decode cX6_takeDigits 78 = .ok (.iload 6, 2) := by decide +kernel
theorem dX6_takeDigits_80 : decode cX6_takeDigits 80 = .ok (.iload_n 2, 1) := by decide +kernel
theorem dX6_takeDigits_81 : decode cX6_takeDigits 81 = .ok (.if_icmp .ge 91, 3) := by decide +kernel
theorem dX6_takeDigits_84 : decode cX6_takeDigits 84 = .ok (.aload_n 0, 1) := by decide +kernel
theorem dX6_takeDigits_85 : decode cX6_takeDigits 85 = .ok (.getfield 25, 3) := by decide +kernel
theorem dX6_takeDigits_88 : decode cX6_takeDigits 88 = .ok (.iload_n 1, 1) := by decide +kernel
theorem dX6_takeDigits_89 : decode cX6_takeDigits 89 = .ok (.iaload, 1) := by decide +kernel
theorem dX6_takeDigits_90 : decode cX6_takeDigits 90 = .ok (.ifCond .ne 18, 3) := by decide +kernel
theorem dX6_takeDigits_93 : decode cX6_takeDigits 93 = .ok (.aload_n 0, 1) := by decide +kernel
theorem dX6_takeDigits_94 : decode cX6_takeDigits 94 = .ok (.getfield 56, 3) := by decide +kernel
theorem dX6_takeDigits_97 : decode cX6_takeDigits 97 = .ok (.iload_n 3, 1) := by decide +kernel
theorem dX6_takeDigits_98 : decode cX6_takeDigits 98 = .ok (.iload 6, 2) := by decide +kernel
theorem dX6_takeDigits_100 : decode cX6_takeDigits 100 = .ok (.iadd, 1) := by decide +kernel
theorem dX6_takeDigits_101 : decode cX6_takeDigits 101 = .ok (.iaload, 1) := by decide +kernel
theorem dX6_takeDigits_102 : decode cX6_takeDigits 102 = .ok (.bipush 15, 2) := by decide +kernel
theorem dX6_takeDigits_104 : decode cX6_takeDigits 104 = .ok (.iand, 1) := by decide +kernel
theorem dX6_takeDigits_105 : decode cX6_takeDigits 105 = .ok (.goto 36, 3) := by decide +kernel
theorem dX6_takeDigits_108 : decode cX6_takeDigits 108 = .ok (.aload_n 0, 1) := by decide +kernel
theorem dX6_takeDigits_109 : decode cX6_takeDigits 109 = .ok (.getfield 56, 3) := by decide +kernel
theorem dX6_takeDigits_112 : decode cX6_takeDigits 112 = .ok (.iload_n 3, 1) := by decide +kernel
theorem dX6_takeDigits_113 : decode cX6_takeDigits 113 = .ok (.iload 5, 2) := by decide +kernel
theorem dX6_takeDigits_115 : decode cX6_takeDigits 115 = .ok (.iload 6, 2) := by decide +kernel
theorem dX6_takeDigits_117 : decode cX6_takeDigits 117 = .ok (.iadd, 1) := by decide +kernel
theorem dX6_takeDigits_118 : decode cX6_takeDigits 118 = .ok (.iconst 2, 1) := by decide +kernel
theorem dX6_takeDigits_119 : decode cX6_takeDigits 119 = .ok (.idiv, 1) := by decide +kernel
theorem dX6_takeDigits_120 : decode cX6_takeDigits 120 = .ok (.iadd, 1) := by decide +kernel
theorem dX6_takeDigits_121 : decode cX6_takeDigits 121 = .ok (.iaload, 1) := by decide +kernel
theorem dX6_takeDigits_122 : decode cX6_takeDigits 122 = .ok (.iload 5, 2) := by decide +kernel
theorem dX6_takeDigits_124 : decode cX6_takeDigits 124 = .ok (.iload 6, 2) := by decide +kernel
theorem dX6_takeDigits_126 : decode cX6_takeDigits 126 = .ok (.iadd, 1) := by decide +kernel
theorem dX6_takeDigits_127 : decode cX6_takeDigits 127 = .ok (.iconst 2, 1) := by decide +kernel
theorem dX6_takeDigits_128 : decode cX6_takeDigits 128 = .ok (.irem, 1) := by decide +kernel
theorem dX6_takeDigits_129 : decode cX6_takeDigits 129 = .ok (.ifCond .ne 7, 3) := by decide +kernel
theorem dX6_takeDigits_132 : decode cX6_takeDigits 132 = .ok (.iconst 4, 1) := by decide +kernel
theorem dX6_takeDigits_133 : decode cX6_takeDigits 133 = .ok (.goto 4, 3) := by decide +kernel
theorem dX6_takeDigits_136 : decode cX6_takeDigits 136 = .ok (.iconst 0, 1) := by decide +kernel
theorem dX6_takeDigits_137 : decode cX6_takeDigits 137 = .ok (.ishr, 1) := by decide +kernel
theorem dX6_takeDigits_138 : decode cX6_takeDigits 138 = .ok (.bipush 15, 2) := by decide +kernel
theorem dX6_takeDigits_140 : decode cX6_takeDigits 140 = .ok (.iand, 1) := by decide +kernel
theorem dX6_takeDigits_141 : decode cX6_takeDigits 141 = .ok (.istore 7, 2) := by decide +kernel
theorem dX6_takeDigits_143 : decode cX6_takeDigits 143 = .ok (.aload_n 0, 1) := by decide +kernel
theorem dX6_takeDigits_144 : decode cX6_takeDigits 144 = .ok (.getfield 59, 3) := by decide +kernel
theorem dX6_takeDigits_147 : decode cX6_takeDigits 147 = .ok (.iload_n 2, 1) := by decide +kernel
theorem dX6_takeDigits_148 : decode cX6_takeDigits 148 = .ok (.iconst 1, 1) := by decide +kernel
theorem dX6_takeDigits_149 : decode cX6_takeDigits 149 = .ok (.isub, 1) := by decide +kernel
theorem dX6_takeDigits_150 : decode cX6_takeDigits 150 = .ok (.iload 6, 2) := by decide +kernel
theorem dX6_takeDigits_152 : decode cX6_takeDigits 152 = .ok (.isub, 1) := by decide +kernel
theorem dX6_takeDigits_153 : decode cX6_takeDigits 153 = .ok (.aload_n 0, 1) := by decide +kernel
theorem dX6_takeDigits_154 : decode cX6_takeDigits 154 = .ok (.getfield 38, 3) := by decide +kernel
theorem dX6_takeDigits_157 : decode cX6_takeDigits 157 = .ok (.iload_n 1, 1) := by decide +kernel
theorem dX6_takeDigits_158 : decode cX6_takeDigits 158 = .ok (.iaload, 1) := by decide +kernel
theorem dX6_takeDigits_159 : decode cX6_takeDigits 159 = .ok (.iadd, 1) := by decide +kernel
theorem dX6_takeDigits_160 : decode cX6_takeDigits 160 = .ok (.iload 7, 2) := by decide +kernel
theorem dX6_takeDigits_162 : decode cX6_takeDigits 162 = .ok (.bipush 10, 2) := by decide +kernel
theorem dX6_takeDigits_164 : decode cX6_takeDigits 164 = .ok (.irem, 1) := by decide +kernel
theorem dX6_takeDigits_165 : decode cX6_takeDigits 165 = .ok (.iastore, 1) := by decide +kernel
theorem dX6_takeDigits_166 : decode cX6_takeDigits 166 = .ok (.iinc 6 1, 3) := by decide +kernel
theorem dX6_takeDigits_169 : decode cX6_takeDigits 169 = .ok (.goto (-91), 3) := by decide +kernel
theorem dX6_takeDigits_172 : decode cX6_takeDigits 172 = .ok (.aload_n 0, 1) := by decide +kernel
theorem dX6_takeDigits_173 : decode cX6_takeDigits 173 = .ok (.aload_n 0, 1) := by decide +kernel
theorem dX6_takeDigits_174 : decode cX6_takeDigits 174 = .ok (.getfield 31, 3) := by decide +kernel
theorem dX6_takeDigits_177 : decode cX6_takeDigits 177 = .ok (.iload_n 1, 1) := by decide +kernel
theorem dX6_takeDigits_178 : decode cX6_takeDigits 178 = .ok (.iaload, 1) := by decide +kernel
theorem dX6_takeDigits_179 : decode cX6_takeDigits 179 = .ok (.putfield 161, 3) := by decide +kernel
theorem dX6_takeDigits_182 : decode cX6_takeDigits 182 = .ok (.aload_n 0, 1) := by decide +kernel
theorem dX6_takeDigits_183 : decode cX6_takeDigits 183 = .ok (.aload_n 0, 1) := by decide +kernel
theorem dX6_takeDigits_184 : decode cX6_takeDigits 184 = .ok (.getfield 34, 3) := by decide +kernel
theorem dX6_takeDigits_187 : decode cX6_takeDigits 187 = .ok (.iload_n 1, 1) := by decide +kernel
theorem dX6_takeDigits_188 : decode cX6_takeDigits 188 = .ok (.baload, 1) := by decide +kernel
theorem dX6_takeDigits_189 : decode cX6_takeDigits 189 = .ok (.ifCond .eq 47, 3) := by decide +kernel
theorem dX6_takeDigits_192 : decode cX6_takeDigits 192 = .ok (.aload_n 0, 1) := by decide +kernel
theorem dX6_takeDigits_193 : decode cX6_takeDigits 193 = .ok (.getfield 25, 3) := by decide +kernel
theorem dX6_takeDigits_196 : decode cX6_takeDigits 196 = .ok (.iload_n 1, 1) := by decide +kernel
theorem dX6_takeDigits_197 : decode cX6_takeDigits 197 = .ok (.iaload, 1) := by decide +kernel
theorem dX6_takeDigits_198 : decode cX6_takeDigits 198 = .ok (.ifCond .ne 14, 3) := by decide +kernel
theorem dX6_takeDigits_201 : decode cX6_takeDigits 201 = .ok (.iload 4, 2) := by decide +kernel
theorem dX6_takeDigits_203 : decode cX6_takeDigits 203 = .ok (.bipush 64, 2) := by decide +kernel
theorem dX6_takeDigits_205 : decode cX6_takeDigits 205 = .ok (.iand, 1) := by decide +kernel
theorem dX6_takeDigits_206 : decode cX6_takeDigits 206 = .ok (.ifCond .eq 30, 3) := by decide +kernel
theorem dX6_takeDigits_209 : decode cX6_takeDigits 209 = .ok (.goto 23, 3) := by decide +kernel
theorem dX6_takeDigits_212 : decode cX6_takeDigits 212 = .ok (.iload 4, 2) := by decide +kernel
theorem dX6_takeDigits_214 : decode cX6_takeDigits 214 = .ok (.bipush 15, 2) := by decide +kernel
theorem dX6_takeDigits_216 : decode cX6_takeDigits 216 = .ok (.iand, 1) := by decide +kernel
theorem dX6_takeDigits_217 : decode cX6_takeDigits 217 = .ok (.bipush 11, 2) := by decide +kernel
theorem dX6_takeDigits_219 : decode cX6_takeDigits 219 = .ok (.if_icmp .eq 13, 3) := by decide +kernel
theorem dX6_takeDigits_222 : decode cX6_takeDigits 222 = .ok (.iload 4, 2) := by decide +kernel
theorem dX6_takeDigits_224 : decode cX6_takeDigits 224 = .ok (.bipush 15, 2) := by decide +kernel
theorem dX6_takeDigits_226 : decode cX6_takeDigits 226 = .ok (.iand, 1) := by decide +kernel
theorem dX6_takeDigits_227 : decode cX6_takeDigits 227 = .ok (.bipush 13, 2) := by decide +kernel
theorem dX6_takeDigits_229 : decode cX6_takeDigits 229 = .ok (.if_icmp .ne 7, 3) := by decide +kernel
theorem dX6_takeDigits_232 : decode cX6_takeDigits 232 = .ok (.iconst 1, 1) := by decide +kernel
theorem dX6_takeDigits_233 : decode cX6_takeDigits 233 = .ok (.goto 4, 3) := by decide +kernel
theorem dX6_takeDigits_236 : decode cX6_takeDigits 236 = .ok (.iconst 0, 1) := by decide +kernel
theorem dX6_takeDigits_237 : decode cX6_takeDigits 237 = .ok (.putfield 164, 3) := by decide +kernel
theorem dX6_takeDigits_240 : decode cX6_takeDigits 240 = .ok (.return_, 1) := by decide +kernel
def m_M_takeDigits_237  (t0 : Int32) (v : Nat → Int32) (u : Nat → Nat → Int32) : Option ((Nat → Int32) × (Nat → Nat → Int32)) := zbo t0 ((some ((upd v 21 t0), u)))
def m_M_takeDigits_236   (v : Nat → Int32) (u : Nat → Nat → Int32) : Option ((Nat → Int32) × (Nat → Nat → Int32)) := m_M_takeDigits_237  0 v u
def m_M_takeDigits_232   (v : Nat → Int32) (u : Nat → Nat → Int32) : Option ((Nat → Int32) × (Nat → Nat → Int32)) := m_M_takeDigits_237  1 v u
def m_M_takeDigits_141  (rec : Int32 → Int32 → Int32 → Int32 → Int32 → Int32 → (Nat → Int32) → (Nat → Nat → Int32) → Option ((Nat → Int32) × (Nat → Nat → Int32))) (x1 : Int32) (x2 : Int32) (x3 : Int32) (x4 : Int32) (x5 : Int32) (x6 : Int32) (t0 : Int32) (v : Nat → Int32) (u : Nat → Nat → Int32) : Option ((Nat → Int32) × (Nat → Nat → Int32)) := zix x1 9 (zix (((x2 - 1) - x6) + ((u 10) x1.toNatClampNeg)) 48 (rec x1 x2 x3 x4 x5 (x6 + 1) v (zau u 17 (((x2 - 1) - x6) + ((u 10) x1.toNatClampNeg)) (t0 - t0 / 10 * 10))))
def m_M_takeDigits_137  (rec : Int32 → Int32 → Int32 → Int32 → Int32 → Int32 → (Nat → Int32) → (Nat → Nat → Int32) → Option ((Nat → Int32) × (Nat → Nat → Int32))) (x1 : Int32) (x2 : Int32) (x3 : Int32) (x4 : Int32) (x5 : Int32) (x6 : Int32) (t0 : Int32) (t1 : Int32) (v : Nat → Int32) (u : Nat → Nat → Int32) : Option ((Nat → Int32) × (Nat → Nat → Int32)) := m_M_takeDigits_141  rec x1 x2 x3 x4 x5 x6 ((t1 >>> (t0 &&& 31)) &&& 15) v u
def m_M_takeDigits_78b  (rec : Int32 → Int32 → Int32 → Int32 → Int32 → Int32 → (Nat → Int32) → (Nat → Nat → Int32) → Option ((Nat → Int32) × (Nat → Nat → Int32))) (x1 : Int32) (x2 : Int32) (x3 : Int32) (x4 : Int32) (x5 : Int32) (x6 : Int32) (v : Nat → Int32) (u : Nat → Nat → Int32) : Option ((Nat → Int32) × (Nat → Nat → Int32)) := (if x2 ≤ x6 then zix x1 9 (zix x1 9 ((if ((u 9) x1.toNatClampNeg) = 0 then m_M_takeDigits_236  (upd v 20 ((u 8) x1.toNatClampNeg)) u else zix x1 9 ((if ((u 6) x1.toNatClampNeg) = 0 then (if (x4 &&& 64) = 0 then m_M_takeDigits_236  (upd v 20 ((u 8) x1.toNatClampNeg)) u else m_M_takeDigits_232  (upd v 20 ((u 8) x1.toNatClampNeg)) u) else (if (x4 &&& 15) = 11 then m_M_takeDigits_232  (upd v 20 ((u 8) x1.toNatClampNeg)) u else (if (x4 &&& 15) = 13 then m_M_takeDigits_232  (upd v 20 ((u 8) x1.toNatClampNeg)) u else m_M_takeDigits_236  (upd v 20 ((u 8) x1.toNatClampNeg)) u))))))) else zix x1 9 ((if ((u 6) x1.toNatClampNeg) = 0 then zix (x3 + x6) 256 (m_M_takeDigits_141  rec x1 x2 x3 x4 x5 x6 (((u 16) (x3 + x6).toNatClampNeg) &&& 15) v u) else zix (x3 + ((x5 + x6) / 2)) 256 ((if ((x5 + x6) - (x5 + x6) / 2 * 2) = 0 then m_M_takeDigits_137  rec x1 x2 x3 x4 x5 x6 4 ((u 16) (x3 + ((x5 + x6) / 2)).toNatClampNeg) v u else m_M_takeDigits_137  rec x1 x2 x3 x4 x5 x6 0 ((u 16) (x3 + ((x5 + x6) / 2)).toNatClampNeg) v u)))))
def m_M_takeDigits_78  : Nat → Int32 → Int32 → Int32 → Int32 → Int32 → Int32 → (Nat → Int32) → (Nat → Nat → Int32) → Option ((Nat → Int32) × (Nat → Nat → Int32))
  | 0 => fun _ _ _ _ _ _ _ _ => none
  | n + 1 => fun x1 x2 x3 x4 x5 x6 v u => m_M_takeDigits_78b  (m_M_takeDigits_78  n) x1 x2 x3 x4 x5 x6 v u
def m_M_takeDigits_31  (rec : Int32 → Int32 → Int32 → (Nat → Int32) → (Nat → Nat → Int32) → Option ((Nat → Int32) × (Nat → Nat → Int32))) (x1 : Int32) (x3 : Int32) (t0 : Int32) (t1 : Int32) (v : Nat → Int32) (u : Nat → Nat → Int32) : Option ((Nat → Int32) × (Nat → Nat → Int32)) := rec x1 (t1 + t0) (x3 + 1) v u
def m_M_takeDigits_4b  (rec : Int32 → Int32 → Int32 → (Nat → Int32) → (Nat → Nat → Int32) → Option ((Nat → Int32) × (Nat → Nat → Int32))) (x1 : Int32) (x2 : Int32) (x3 : Int32) (v : Nat → Int32) (u : Nat → Nat → Int32) : Option ((Nat → Int32) × (Nat → Nat → Int32)) := zix x1 9 ((if ((u 2) x1.toNatClampNeg) ≤ x3 then zix x1 9 (zix (((32 * x1) + ((u 15) x1.toNatClampNeg)) - 1) 256 (zix x1 9 (m_M_takeDigits_78  64 x1 x2 (32 * x1) ((u 16) (((32 * x1) + ((u 15) x1.toNatClampNeg)) - 1).toNatClampNeg) (((2 * ((u 15) x1.toNatClampNeg)) - x2) - 1) 0 v u))) else (m_M_sym x1 x3 v u).bind (fun q24 => (if q24 = 57 then m_M_takeDigits_31  rec x1 x3 1 x2 v u else m_M_takeDigits_31  rec x1 x3 0 x2 v u))))
def m_M_takeDigits_4  : Nat → Int32 → Int32 → Int32 → (Nat → Int32) → (Nat → Nat → Int32) → Option ((Nat → Int32) × (Nat → Nat → Int32))
  | 0 => fun _ _ _ _ _ => none
  | n + 1 => fun x1 x2 x3 v u => m_M_takeDigits_4b  (m_M_takeDigits_4  n) x1 x2 x3 v u
def m_M_takeDigits (a0 : Int32) (v : Nat → Int32) (u : Nat → Nat → Int32)  : Option ((Nat → Int32) × (Nat → Nat → Int32)) := m_M_takeDigits_4  64 a0 0 0 v u
section
variable {p : Program} {l : Launch} {e : Env} {s : State} {m : MethodId} {args : Array Value} {below : List Frame} {meth : Method} {c : Code} {D : va_G} {w0 : va_W} {ad : Nat → Nat} {ca : Nat → ClassId}
set_option maxRecDepth 100000 in
set_option maxHeartbeats 4000000 in
theorem b_M_takeDigits_237 (G : zG p s m args meth c cX6_takeDigits RX6 8 none) (hK : va_K D vwCl (wM_t ca) s) (hX : zN (va_A w0 s.heap.size) s) {res : (Nat → Int32) × (Nat → Nat → Int32)} : ∀ (t0 : Int32) (v : Nat → Int32) (u : Nat → Nat → Int32), m_M_takeDigits_237  t0 v u = some res → zB p l e (zR 1 22) s m args below meth c D vwCl (va_A w0 s.heap.size) (MQ below (zQv D vwCl w0 (wM ad ca res.1 res.2) s.heap.size) args s 0 0 (va_A w0 s.heap.size)) 8 (wM ad ca v u) [] 237 [.int t0, .ref (ad 0)] := by
  intro t0 v u hm H locs ls hP hD hS hl
  unfold m_M_takeDigits_237 at hm
  have G0 := G
  obtain ⟨hx, hb, hr, hml, hown, hw, hlk⟩ := G
  have hA : ∀ q, s.heap.size ≤ q → va_A w0 s.heap.size q := fun q h => Or.inr h
  obtain ⟨hz10, hz11, hm⟩ := zbo_s hm
  refine va_put (D := D) (ci := 5) (v := .int t0) (ty := .boolean) (C := RX6) (T := TX6) (N := 24) hx hb hw zinX6 tyX6 tyX6_ok nmX6 hown hK hP hD hS 0 rfl rfl 21 (by decide) (hw _ zw19) (fun _ h9 => h9) rfl (by decide +kernel) hz10 hz11 (Nat.le_of_ble_eq_true rfl) dX6_takeDigits_237 (fun H locs hP hD hS => ?_)
  have hP : va_P D vwCl (wM ad ca (upd v 21 t0) u) H := hP
  have hD : va_D _ (wM ad ca (upd v 21 t0) u) := hD
  cases hm
  exact zretv hx hb hr hlk hP hD hS dX6_takeDigits_240
set_option maxRecDepth 100000 in
set_option maxHeartbeats 4000000 in
theorem b_M_takeDigits_236 (G : zG p s m args meth c cX6_takeDigits RX6 8 none) (hK : va_K D vwCl (wM_t ca) s) (hX : zN (va_A w0 s.heap.size) s) {res : (Nat → Int32) × (Nat → Nat → Int32)} : ∀ (v : Nat → Int32) (u : Nat → Nat → Int32), m_M_takeDigits_236  v u = some res → zB p l e (zR 1 22) s m args below meth c D vwCl (va_A w0 s.heap.size) (MQ below (zQv D vwCl w0 (wM ad ca res.1 res.2) s.heap.size) args s 0 0 (va_A w0 s.heap.size)) 8 (wM ad ca v u) [] 236 [.ref (ad 0)] := by
  intro v u hm H locs ls hP hD hS hl
  unfold m_M_takeDigits_236 at hm
  have G0 := G
  obtain ⟨hx, hb, hr, hml, hown, hw, hlk⟩ := G
  have hA : ∀ q, s.heap.size ≤ q → va_A w0 s.heap.size q := fun q h => Or.inr h
  refine lv_iconst (v := 0) hx hb dX6_takeDigits_236 (by decide) ?_
  exact b_M_takeDigits_237 G0 hK hX _ _ _ hm H _ _ hP hD hS hl
set_option maxRecDepth 100000 in
set_option maxHeartbeats 4000000 in
theorem b_M_takeDigits_232 (G : zG p s m args meth c cX6_takeDigits RX6 8 none) (hK : va_K D vwCl (wM_t ca) s) (hX : zN (va_A w0 s.heap.size) s) {res : (Nat → Int32) × (Nat → Nat → Int32)} : ∀ (v : Nat → Int32) (u : Nat → Nat → Int32), m_M_takeDigits_232  v u = some res → zB p l e (zR 1 22) s m args below meth c D vwCl (va_A w0 s.heap.size) (MQ below (zQv D vwCl w0 (wM ad ca res.1 res.2) s.heap.size) args s 0 0 (va_A w0 s.heap.size)) 8 (wM ad ca v u) [] 232 [.ref (ad 0)] := by
  intro v u hm H locs ls hP hD hS hl
  unfold m_M_takeDigits_232 at hm
  have G0 := G
  obtain ⟨hx, hb, hr, hml, hown, hw, hlk⟩ := G
  have hA : ∀ q, s.heap.size ≤ q → va_A w0 s.heap.size q := fun q h => Or.inr h
  refine lv_iconst (v := 1) hx hb dX6_takeDigits_232 (by decide) ?_
  refine lv_goto (tgt := 237) hx hb dX6_takeDigits_233 rfl ?_
  exact b_M_takeDigits_237 G0 hK hX _ _ _ hm H _ _ hP hD hS hl
set_option maxRecDepth 100000 in
set_option maxHeartbeats 4000000 in
theorem b_M_takeDigits_141 (G : zG p s m args meth c cX6_takeDigits RX6 8 none) (hK : va_K D vwCl (wM_t ca) s) (hX : zN (va_A w0 s.heap.size) s) {res : (Nat → Int32) × (Nat → Nat → Int32)} (rec : Int32 → Int32 → Int32 → Int32 → Int32 → Int32 → (Nat → Int32) → (Nat → Nat → Int32) → Option ((Nat → Int32) × (Nat → Nat → Int32))) (hrec : ∀ (x1 : Int32) (x2 : Int32) (x3 : Int32) (x4 : Int32) (x5 : Int32) (x6 : Int32) (v : Nat → Int32) (u : Nat → Nat → Int32), rec x1 x2 x3 x4 x5 x6 v u = some res → zB p l e (zR 1 22) s m args below meth c D vwCl (va_A w0 s.heap.size) (MQ below (zQv D vwCl w0 (wM ad ca res.1 res.2) s.heap.size) args s 0 0 (va_A w0 s.heap.size)) 8 (wM ad ca v u) [(0, .ref (ad 0)), (1, .int x1), (2, .int x2), (3, .int x3), (4, .int x4), (5, .int x5), (6, .int x6)] 78 []) : ∀ (x1 : Int32) (x2 : Int32) (x3 : Int32) (x4 : Int32) (x5 : Int32) (x6 : Int32) (t0 : Int32) (v : Nat → Int32) (u : Nat → Nat → Int32), m_M_takeDigits_141  rec x1 x2 x3 x4 x5 x6 t0 v u = some res → zB p l e (zR 1 22) s m args below meth c D vwCl (va_A w0 s.heap.size) (MQ below (zQv D vwCl w0 (wM ad ca res.1 res.2) s.heap.size) args s 0 0 (va_A w0 s.heap.size)) 8 (wM ad ca v u) [(0, .ref (ad 0)), (1, .int x1), (2, .int x2), (3, .int x3), (4, .int x4), (5, .int x5), (6, .int x6)] 141 [.int t0] := by
  intro x1 x2 x3 x4 x5 x6 t0 v u hm H locs ls hP hD hS hl
  unfold m_M_takeDigits_141 at hm
  have G0 := G
  obtain ⟨hx, hb, hr, hml, hown, hw, hlk⟩ := G
  have hA : ∀ q, s.heap.size ≤ q → va_A w0 s.heap.size q := fun q h => Or.inr h
  refine lv_istore (lv' := [(7, .int t0), (0, .ref (ad 0)), (1, .int x1), (2, .int x2), (3, .int x3), (4, .int x4), (5, .int x5), (6, .int x6)]) hx hb dX6_takeDigits_141 hl (by decide) rfl (fun ls hl => ?_)
  refine lv_aload_n hx hb dX6_takeDigits_143 rfl (lv_at hl 1 rfl) ?_
  refine va_get (D := D) (ci := 5) (v := .ref (ad 17)) (C := RX6) (T := TX6) (N := 24) hx hb hw zinX6 hown hK hP 0 rfl rfl 19 (by decide) (hw _ zw20) (fun _ h9 => h9) rfl dX6_takeDigits_144 ?_
  refine lv_iload_n hx hb dX6_takeDigits_147 rfl (lv_at hl 3 rfl) ?_
  refine lv_iconst (v := 1) hx hb dX6_takeDigits_148 (by decide) ?_
  refine lv_isub hx hb dX6_takeDigits_149 ?_
  refine lv_iload hx hb dX6_takeDigits_150 (lv_at hl 7 rfl) ?_
  refine lv_isub hx hb dX6_takeDigits_152 ?_
  refine lv_aload_n hx hb dX6_takeDigits_153 rfl (lv_at hl 1 rfl) ?_
  refine va_get (D := D) (ci := 5) (v := .ref (ad 10)) (C := RX6) (T := TX6) (N := 24) hx hb hw zinX6 hown hK hP 0 rfl rfl 12 (by decide) (hw _ zw48) (fun _ h9 => h9) rfl dX6_takeDigits_154 ?_
  refine lv_iload_n hx hb dX6_takeDigits_157 rfl (lv_at hl 2 rfl) ?_
  obtain ⟨hi21, hm⟩ := zix_s hm
  refine va_iald (i := x1) (f := (u 10)) (n := 9) hx hb hK hP 10 9 rfl rfl hi21 dX6_takeDigits_158 ?_
  refine lv_iadd hx hb dX6_takeDigits_159 ?_
  refine lv_iload hx hb dX6_takeDigits_160 (lv_at hl 0 rfl) ?_
  refine lv_bipush (v := 10) hx hb dX6_takeDigits_162 (by decide) ?_
  refine lv_irem hx hb dX6_takeDigits_164 (by decide) ?_
  obtain ⟨hi22, hm⟩ := zix_s hm
  refine va_iast (i := (((x2 - 1) - x6) + ((u 10) x1.toNatClampNeg))) (x := (t0 - t0 / 10 * 10)) (f := (u 17)) (n := 48) hx hb hK hP hD hS 17 16 rfl rfl hi22 dX6_takeDigits_165 (fun H locs hP hD hS => ?_)
  have hP : va_P D vwCl (wM ad ca v (zau u 17 (((x2 - 1) - x6) + ((u 10) x1.toNatClampNeg)) (t0 - t0 / 10 * 10))) H := hP
  have hD : va_D _ (wM ad ca v (zau u 17 (((x2 - 1) - x6) + ((u 10) x1.toNatClampNeg)) (t0 - t0 / 10 * 10))) := hD
  refine lv_iinc (k := 7) (v := (x6 + 1)) (lv' := [(6, .int (x6 + 1)), (7, .int t0), (0, .ref (ad 0)), (1, .int x1), (2, .int x2), (3, .int x3), (4, .int x4), (5, .int x5)]) hx hb dX6_takeDigits_166 hl rfl rfl (by decide) rfl (fun ls hl => ?_)
  refine lv_goto (tgt := 78) hx hb dX6_takeDigits_169 rfl ?_
  exact hrec _ _ _ _ _ _ _ _ hm H _ _ hP hD hS (lv_sub hl [2, 3, 4, 5, 6, 7, 0] rfl)
set_option maxRecDepth 100000 in
set_option maxHeartbeats 4000000 in
theorem b_M_takeDigits_137 (G : zG p s m args meth c cX6_takeDigits RX6 8 none) (hK : va_K D vwCl (wM_t ca) s) (hX : zN (va_A w0 s.heap.size) s) {res : (Nat → Int32) × (Nat → Nat → Int32)} (rec : Int32 → Int32 → Int32 → Int32 → Int32 → Int32 → (Nat → Int32) → (Nat → Nat → Int32) → Option ((Nat → Int32) × (Nat → Nat → Int32))) (hrec : ∀ (x1 : Int32) (x2 : Int32) (x3 : Int32) (x4 : Int32) (x5 : Int32) (x6 : Int32) (v : Nat → Int32) (u : Nat → Nat → Int32), rec x1 x2 x3 x4 x5 x6 v u = some res → zB p l e (zR 1 22) s m args below meth c D vwCl (va_A w0 s.heap.size) (MQ below (zQv D vwCl w0 (wM ad ca res.1 res.2) s.heap.size) args s 0 0 (va_A w0 s.heap.size)) 8 (wM ad ca v u) [(0, .ref (ad 0)), (1, .int x1), (2, .int x2), (3, .int x3), (4, .int x4), (5, .int x5), (6, .int x6)] 78 []) : ∀ (x1 : Int32) (x2 : Int32) (x3 : Int32) (x4 : Int32) (x5 : Int32) (x6 : Int32) (t0 : Int32) (t1 : Int32) (v : Nat → Int32) (u : Nat → Nat → Int32), m_M_takeDigits_137  rec x1 x2 x3 x4 x5 x6 t0 t1 v u = some res → zB p l e (zR 1 22) s m args below meth c D vwCl (va_A w0 s.heap.size) (MQ below (zQv D vwCl w0 (wM ad ca res.1 res.2) s.heap.size) args s 0 0 (va_A w0 s.heap.size)) 8 (wM ad ca v u) [(0, .ref (ad 0)), (1, .int x1), (2, .int x2), (3, .int x3), (4, .int x4), (5, .int x5), (6, .int x6)] 137 [.int t0, .int t1] := by
  intro x1 x2 x3 x4 x5 x6 t0 t1 v u hm H locs ls hP hD hS hl
  unfold m_M_takeDigits_137 at hm
  have G0 := G
  obtain ⟨hx, hb, hr, hml, hown, hw, hlk⟩ := G
  have hA : ∀ q, s.heap.size ≤ q → va_A w0 s.heap.size q := fun q h => Or.inr h
  refine lv_ishr hx hb dX6_takeDigits_137 ?_
  refine lv_bipush (v := 15) hx hb dX6_takeDigits_138 (by decide) ?_
  refine lv_iand hx hb dX6_takeDigits_140 ?_
  exact b_M_takeDigits_141 G0 hK hX rec hrec _ _ _ _ _ _ _ _ _ hm H _ _ hP hD hS hl
set_option maxRecDepth 100000 in
set_option maxHeartbeats 4000000 in
theorem b_M_takeDigits_78 (G : zG p s m args meth c cX6_takeDigits RX6 8 none) (hK : va_K D vwCl (wM_t ca) s) (hX : zN (va_A w0 s.heap.size) s) {res : (Nat → Int32) × (Nat → Nat → Int32)} : ∀ n : Nat, ∀ (x1 : Int32) (x2 : Int32) (x3 : Int32) (x4 : Int32) (x5 : Int32) (x6 : Int32) (v : Nat → Int32) (u : Nat → Nat → Int32), m_M_takeDigits_78  n x1 x2 x3 x4 x5 x6 v u = some res → zB p l e (zR 1 22) s m args below meth c D vwCl (va_A w0 s.heap.size) (MQ below (zQv D vwCl w0 (wM ad ca res.1 res.2) s.heap.size) args s 0 0 (va_A w0 s.heap.size)) 8 (wM ad ca v u) [(0, .ref (ad 0)), (1, .int x1), (2, .int x2), (3, .int x3), (4, .int x4), (5, .int x5), (6, .int x6)] 78 [] := by
  intro n
  induction n with
  | zero => intro x1 x2 x3 x4 x5 x6 v u hm; cases hm
  | succ n ih =>
  have hrec := ih
  intro x1 x2 x3 x4 x5 x6 v u hm H locs ls hP hD hS hl
  replace hm : m_M_takeDigits_78b  (m_M_takeDigits_78  n) x1 x2 x3 x4 x5 x6 v u = some res := hm
  generalize m_M_takeDigits_78  n = rec at hm hrec
  unfold m_M_takeDigits_78b at hm
  clear ih
  have G0 := G
  obtain ⟨hx, hb, hr, hml, hown, hw, hlk⟩ := G
  have hA : ∀ q, s.heap.size ≤ q → va_A w0 s.heap.size q := fun q h => Or.inr h
  refine lv_iload hx hb dX6_takeDigits_78 (lv_at hl 6 rfl) ?_
  refine lv_iload_n hx hb dX6_takeDigits_80 rfl (lv_at hl 2 rfl) ?_
  refine lv_icmp_ge (tgt := 172) hx hb dX6_takeDigits_81 rfl (fun cd6 => ?_) (fun cd6 => ?_)
  · replace hm := zt cd6 hm
    refine lv_aload_n hx hb dX6_takeDigits_172 rfl (lv_at hl 0 rfl) ?_
    refine lv_aload_n hx hb dX6_takeDigits_173 rfl (lv_at hl 0 rfl) ?_
    refine va_get (D := D) (ci := 5) (v := .ref (ad 8)) (C := RX6) (T := TX6) (N := 24) hx hb hw zinX6 hown hK hP 0 rfl rfl 10 (by decide) (hw _ zw22) (fun _ h9 => h9) rfl dX6_takeDigits_174 ?_
    refine lv_iload_n hx hb dX6_takeDigits_177 rfl (lv_at hl 1 rfl) ?_
    obtain ⟨hi7, hm⟩ := zix_s hm
    refine va_iald (i := x1) (f := (u 8)) (n := 9) hx hb hK hP 8 7 rfl rfl hi7 dX6_takeDigits_178 ?_
    refine va_put (D := D) (ci := 5) (v := .int ((u 8) x1.toNatClampNeg)) (ty := .int) (C := RX6) (T := TX6) (N := 24) hx hb hw zinX6 tyX6 tyX6_ok nmX6 hown hK hP hD hS 0 rfl rfl 20 (by decide) (hw _ zw18) (fun _ h9 => h9) rfl (by decide +kernel) rfl rfl (Nat.le_of_ble_eq_true rfl) dX6_takeDigits_179 (fun H locs hP hD hS => ?_)
    have hP : va_P D vwCl (wM ad ca (upd v 20 ((u 8) x1.toNatClampNeg)) u) H := hP
    have hD : va_D _ (wM ad ca (upd v 20 ((u 8) x1.toNatClampNeg)) u) := hD
    refine lv_aload_n hx hb dX6_takeDigits_182 rfl (lv_at hl 0 rfl) ?_
    refine lv_aload_n hx hb dX6_takeDigits_183 rfl (lv_at hl 0 rfl) ?_
    refine va_get (D := D) (ci := 5) (v := .ref (ad 9)) (C := RX6) (T := TX6) (N := 24) hx hb hw zinX6 hown hK hP 0 rfl rfl 11 (by decide) (hw _ zw47) (fun _ h9 => h9) rfl dX6_takeDigits_184 ?_
    refine lv_iload_n hx hb dX6_takeDigits_187 rfl (lv_at hl 1 rfl) ?_
    obtain ⟨hi8, hm⟩ := zix_s hm
    refine va_zald (i := x1) (f := (u 9)) (n := 9) hx hb hK hP 9 8 rfl rfl hi8 dX6_takeDigits_188 ?_
    refine lv_if_eq (tgt := 236) hx hb dX6_takeDigits_189 rfl (fun cd9 => ?_) (fun cd9 => ?_)
    · replace hm := zt cd9 hm
      exact b_M_takeDigits_236 G0 hK hX _ _ hm H _ _ hP hD hS (lv_sub hl [] rfl)
    · replace hm := zf cd9 hm
      refine lv_aload_n hx hb dX6_takeDigits_192 rfl (lv_at hl 0 rfl) ?_
      refine va_get (D := D) (ci := 5) (v := .ref (ad 6)) (C := RX6) (T := TX6) (N := 24) hx hb hw zinX6 hown hK hP 0 rfl rfl 8 (by decide) (hw _ zw115) (fun _ h9 => h9) rfl dX6_takeDigits_193 ?_
      refine lv_iload_n hx hb dX6_takeDigits_196 rfl (lv_at hl 1 rfl) ?_
      obtain ⟨hi12, hm⟩ := zix_s hm
      refine va_iald (i := x1) (f := (u 6)) (n := 9) hx hb hK hP 6 5 rfl rfl hi12 dX6_takeDigits_197 ?_
      refine lv_if_ne (tgt := 212) hx hb dX6_takeDigits_198 rfl (fun cd13 => ?_) (fun cd13 => ?_)
      · replace hm := zf cd13 hm
        refine lv_iload hx hb dX6_takeDigits_212 (lv_at hl 4 rfl) ?_
        refine lv_bipush (v := 15) hx hb dX6_takeDigits_214 (by decide) ?_
        refine lv_iand hx hb dX6_takeDigits_216 ?_
        refine lv_bipush (v := 11) hx hb dX6_takeDigits_217 (by decide) ?_
        refine lv_icmp_eq (tgt := 232) hx hb dX6_takeDigits_219 rfl (fun cd14 => ?_) (fun cd14 => ?_)
        · replace hm := zt cd14 hm
          exact b_M_takeDigits_232 G0 hK hX _ _ hm H _ _ hP hD hS (lv_sub hl [] rfl)
        · replace hm := zf cd14 hm
          refine lv_iload hx hb dX6_takeDigits_222 (lv_at hl 4 rfl) ?_
          refine lv_bipush (v := 15) hx hb dX6_takeDigits_224 (by decide) ?_
          refine lv_iand hx hb dX6_takeDigits_226 ?_
          refine lv_bipush (v := 13) hx hb dX6_takeDigits_227 (by decide) ?_
          refine lv_icmp_ne (tgt := 236) hx hb dX6_takeDigits_229 rfl (fun cd15 => ?_) (fun cd15 => ?_)
          · replace hm := zf cd15 hm
            exact b_M_takeDigits_236 G0 hK hX _ _ hm H _ _ hP hD hS (lv_sub hl [] rfl)
          · replace hm := zt cd15 hm
            exact b_M_takeDigits_232 G0 hK hX _ _ hm H _ _ hP hD hS (lv_sub hl [] rfl)
      · replace hm := zt cd13 hm
        refine lv_iload hx hb dX6_takeDigits_201 (lv_at hl 4 rfl) ?_
        refine lv_bipush (v := 64) hx hb dX6_takeDigits_203 (by decide) ?_
        refine lv_iand hx hb dX6_takeDigits_205 ?_
        refine lv_if_eq (tgt := 236) hx hb dX6_takeDigits_206 rfl (fun cd16 => ?_) (fun cd16 => ?_)
        · replace hm := zt cd16 hm
          exact b_M_takeDigits_236 G0 hK hX _ _ hm H _ _ hP hD hS (lv_sub hl [] rfl)
        · replace hm := zf cd16 hm
          refine lv_goto (tgt := 232) hx hb dX6_takeDigits_209 rfl ?_
          exact b_M_takeDigits_232 G0 hK hX _ _ hm H _ _ hP hD hS (lv_sub hl [] rfl)
  · replace hm := zf cd6 hm
    refine lv_aload_n hx hb dX6_takeDigits_84 rfl (lv_at hl 0 rfl) ?_
    refine va_get (D := D) (ci := 5) (v := .ref (ad 6)) (C := RX6) (T := TX6) (N := 24) hx hb hw zinX6 hown hK hP 0 rfl rfl 8 (by decide) (hw _ zw115) (fun _ h9 => h9) rfl dX6_takeDigits_85 ?_
    refine lv_iload_n hx hb dX6_takeDigits_88 rfl (lv_at hl 1 rfl) ?_
    obtain ⟨hi17, hm⟩ := zix_s hm
    refine va_iald (i := x1) (f := (u 6)) (n := 9) hx hb hK hP 6 5 rfl rfl hi17 dX6_takeDigits_89 ?_
    refine lv_if_ne (tgt := 108) hx hb dX6_takeDigits_90 rfl (fun cd18 => ?_) (fun cd18 => ?_)
    · replace hm := zf cd18 hm
      refine lv_aload_n hx hb dX6_takeDigits_108 rfl (lv_at hl 0 rfl) ?_
      refine va_get (D := D) (ci := 5) (v := .ref (ad 16)) (C := RX6) (T := TX6) (N := 24) hx hb hw zinX6 hown hK hP 0 rfl rfl 18 (by decide) (hw _ zw114) (fun _ h9 => h9) rfl dX6_takeDigits_109 ?_
      refine lv_iload_n hx hb dX6_takeDigits_112 rfl (lv_at hl 3 rfl) ?_
      refine lv_iload hx hb dX6_takeDigits_113 (lv_at hl 5 rfl) ?_
      refine lv_iload hx hb dX6_takeDigits_115 (lv_at hl 6 rfl) ?_
      refine lv_iadd hx hb dX6_takeDigits_117 ?_
      refine lv_iconst (v := 2) hx hb dX6_takeDigits_118 (by decide) ?_
      refine lv_idiv hx hb dX6_takeDigits_119 (by decide) ?_
      refine lv_iadd hx hb dX6_takeDigits_120 ?_
      obtain ⟨hi19, hm⟩ := zix_s hm
      refine va_iald (i := (x3 + ((x5 + x6) / 2))) (f := (u 16)) (n := 256) hx hb hK hP 16 15 rfl rfl hi19 dX6_takeDigits_121 ?_
      refine lv_iload hx hb dX6_takeDigits_122 (lv_at hl 5 rfl) ?_
      refine lv_iload hx hb dX6_takeDigits_124 (lv_at hl 6 rfl) ?_
      refine lv_iadd hx hb dX6_takeDigits_126 ?_
      refine lv_iconst (v := 2) hx hb dX6_takeDigits_127 (by decide) ?_
      refine lv_irem hx hb dX6_takeDigits_128 (by decide) ?_
      refine lv_if_ne (tgt := 136) hx hb dX6_takeDigits_129 rfl (fun cd20 => ?_) (fun cd20 => ?_)
      · replace hm := zf cd20 hm
        refine lv_iconst (v := 0) hx hb dX6_takeDigits_136 (by decide) ?_
        exact b_M_takeDigits_137 G0 hK hX rec hrec _ _ _ _ _ _ _ _ _ _ hm H _ _ hP hD hS hl
      · replace hm := zt cd20 hm
        refine lv_iconst (v := 4) hx hb dX6_takeDigits_132 (by decide) ?_
        refine lv_goto (tgt := 137) hx hb dX6_takeDigits_133 rfl ?_
        exact b_M_takeDigits_137 G0 hK hX rec hrec _ _ _ _ _ _ _ _ _ _ hm H _ _ hP hD hS hl
    · replace hm := zt cd18 hm
      refine lv_aload_n hx hb dX6_takeDigits_93 rfl (lv_at hl 0 rfl) ?_
      refine va_get (D := D) (ci := 5) (v := .ref (ad 16)) (C := RX6) (T := TX6) (N := 24) hx hb hw zinX6 hown hK hP 0 rfl rfl 18 (by decide) (hw _ zw114) (fun _ h9 => h9) rfl dX6_takeDigits_94 ?_
      refine lv_iload_n hx hb dX6_takeDigits_97 rfl (lv_at hl 3 rfl) ?_
      refine lv_iload hx hb dX6_takeDigits_98 (lv_at hl 6 rfl) ?_
      refine lv_iadd hx hb dX6_takeDigits_100 ?_
      obtain ⟨hi23, hm⟩ := zix_s hm
      refine va_iald (i := (x3 + x6)) (f := (u 16)) (n := 256) hx hb hK hP 16 15 rfl rfl hi23 dX6_takeDigits_101 ?_
      refine lv_bipush (v := 15) hx hb dX6_takeDigits_102 (by decide) ?_
      refine lv_iand hx hb dX6_takeDigits_104 ?_
      refine lv_goto (tgt := 141) hx hb dX6_takeDigits_105 rfl ?_
      exact b_M_takeDigits_141 G0 hK hX rec hrec _ _ _ _ _ _ _ _ _ hm H _ _ hP hD hS hl
set_option maxRecDepth 100000 in
set_option maxHeartbeats 4000000 in
theorem b_M_takeDigits_31 (G : zG p s m args meth c cX6_takeDigits RX6 8 none) (hK : va_K D vwCl (wM_t ca) s) (hX : zN (va_A w0 s.heap.size) s) {res : (Nat → Int32) × (Nat → Nat → Int32)} (rec : Int32 → Int32 → Int32 → (Nat → Int32) → (Nat → Nat → Int32) → Option ((Nat → Int32) × (Nat → Nat → Int32))) (hrec : ∀ (x1 : Int32) (x2 : Int32) (x3 : Int32) (v : Nat → Int32) (u : Nat → Nat → Int32), rec x1 x2 x3 v u = some res → zB p l e (zR 1 22) s m args below meth c D vwCl (va_A w0 s.heap.size) (MQ below (zQv D vwCl w0 (wM ad ca res.1 res.2) s.heap.size) args s 0 0 (va_A w0 s.heap.size)) 8 (wM ad ca v u) [(0, .ref (ad 0)), (1, .int x1), (2, .int x2), (3, .int x3)] 4 []) : ∀ (x1 : Int32) (x3 : Int32) (t0 : Int32) (t1 : Int32) (v : Nat → Int32) (u : Nat → Nat → Int32), m_M_takeDigits_31  rec x1 x3 t0 t1 v u = some res → zB p l e (zR 1 22) s m args below meth c D vwCl (va_A w0 s.heap.size) (MQ below (zQv D vwCl w0 (wM ad ca res.1 res.2) s.heap.size) args s 0 0 (va_A w0 s.heap.size)) 8 (wM ad ca v u) [(0, .ref (ad 0)), (1, .int x1), (3, .int x3)] 31 [.int t0, .int t1] := by
  intro x1 x3 t0 t1 v u hm H locs ls hP hD hS hl
  unfold m_M_takeDigits_31 at hm
  have G0 := G
  obtain ⟨hx, hb, hr, hml, hown, hw, hlk⟩ := G
  have hA : ∀ q, s.heap.size ≤ q → va_A w0 s.heap.size q := fun q h => Or.inr h
  refine lv_iadd hx hb dX6_takeDigits_31 ?_
  refine lv_istore_n (lv' := [(2, .int (t1 + t0)), (0, .ref (ad 0)), (1, .int x1), (3, .int x3)]) hx hb dX6_takeDigits_32 rfl hl (by decide) rfl (fun ls hl => ?_)
  refine lv_iinc (k := 3) (v := (x3 + 1)) (lv' := [(3, .int (x3 + 1)), (2, .int (t1 + t0)), (0, .ref (ad 0)), (1, .int x1)]) hx hb dX6_takeDigits_33 hl rfl rfl (by decide) rfl (fun ls hl => ?_)
  refine lv_goto (tgt := 4) hx hb dX6_takeDigits_36 rfl ?_
  exact hrec _ _ _ _ _ hm H _ _ hP hD hS (lv_sub hl [2, 3, 1, 0] rfl)
set_option maxRecDepth 100000 in
set_option maxHeartbeats 4000000 in
theorem b_M_takeDigits_4 (G : zG p s m args meth c cX6_takeDigits RX6 8 none) (hK : va_K D vwCl (wM_t ca) s) (hX : zN (va_A w0 s.heap.size) s) {res : (Nat → Int32) × (Nat → Nat → Int32)} : ∀ n : Nat, ∀ (x1 : Int32) (x2 : Int32) (x3 : Int32) (v : Nat → Int32) (u : Nat → Nat → Int32), m_M_takeDigits_4  n x1 x2 x3 v u = some res → zB p l e (zR 1 22) s m args below meth c D vwCl (va_A w0 s.heap.size) (MQ below (zQv D vwCl w0 (wM ad ca res.1 res.2) s.heap.size) args s 0 0 (va_A w0 s.heap.size)) 8 (wM ad ca v u) [(0, .ref (ad 0)), (1, .int x1), (2, .int x2), (3, .int x3)] 4 [] := by
  intro n
  induction n with
  | zero => intro x1 x2 x3 v u hm; cases hm
  | succ n ih =>
  have hrec := ih
  intro x1 x2 x3 v u hm H locs ls hP hD hS hl
  replace hm : m_M_takeDigits_4b  (m_M_takeDigits_4  n) x1 x2 x3 v u = some res := hm
  generalize m_M_takeDigits_4  n = rec at hm hrec
  unfold m_M_takeDigits_4b at hm
  clear ih
  have G0 := G
  obtain ⟨hx, hb, hr, hml, hown, hw, hlk⟩ := G
  have hA : ∀ q, s.heap.size ≤ q → va_A w0 s.heap.size q := fun q h => Or.inr h
  refine lv_iload_n hx hb dX6_takeDigits_4 rfl (lv_at hl 3 rfl) ?_
  refine lv_aload_n hx hb dX6_takeDigits_5 rfl (lv_at hl 0 rfl) ?_
  refine va_get (D := D) (ci := 5) (v := .ref (ad 2)) (C := RX6) (T := TX6) (N := 24) hx hb hw zinX6 hown hK hP 0 rfl rfl 4 (by decide) (hw _ zw5) (fun _ h9 => h9) rfl dX6_takeDigits_6 ?_
  refine lv_iload_n hx hb dX6_takeDigits_9 rfl (lv_at hl 1 rfl) ?_
  obtain ⟨hi1, hm⟩ := zix_s hm
  refine va_iald (i := x1) (f := (u 2)) (n := 9) hx hb hK hP 2 1 rfl rfl hi1 dX6_takeDigits_10 ?_
  refine lv_icmp_ge (tgt := 39) hx hb dX6_takeDigits_11 rfl (fun cd2 => ?_) (fun cd2 => ?_)
  · replace hm := zt cd2 hm
    refine lv_bipush (v := 32) hx hb dX6_takeDigits_39 (by decide) ?_
    refine lv_iload_n hx hb dX6_takeDigits_41 rfl (lv_at hl 1 rfl) ?_
    refine lv_imul hx hb dX6_takeDigits_42 ?_
    refine lv_istore_n (lv' := [(3, .int (32 * x1)), (0, .ref (ad 0)), (1, .int x1), (2, .int x2)]) hx hb dX6_takeDigits_43 rfl hl (by decide) rfl (fun ls hl => ?_)
    refine lv_aload_n hx hb dX6_takeDigits_44 rfl (lv_at hl 1 rfl) ?_
    refine va_get (D := D) (ci := 5) (v := .ref (ad 16)) (C := RX6) (T := TX6) (N := 24) hx hb hw zinX6 hown hK hP 0 rfl rfl 18 (by decide) (hw _ zw114) (fun _ h9 => h9) rfl dX6_takeDigits_45 ?_
    refine lv_iload_n hx hb dX6_takeDigits_48 rfl (lv_at hl 0 rfl) ?_
    refine lv_aload_n hx hb dX6_takeDigits_49 rfl (lv_at hl 1 rfl) ?_
    refine va_get (D := D) (ci := 5) (v := .ref (ad 15)) (C := RX6) (T := TX6) (N := 24) hx hb hw zinX6 hown hK hP 0 rfl rfl 17 (by decide) (hw _ zw50) (fun _ h9 => h9) rfl dX6_takeDigits_50 ?_
    refine lv_iload_n hx hb dX6_takeDigits_53 rfl (lv_at hl 2 rfl) ?_
    obtain ⟨hi3, hm⟩ := zix_s hm
    refine va_iald (i := x1) (f := (u 15)) (n := 9) hx hb hK hP 15 14 rfl rfl hi3 dX6_takeDigits_54 ?_
    refine lv_iadd hx hb dX6_takeDigits_55 ?_
    refine lv_iconst (v := 1) hx hb dX6_takeDigits_56 (by decide) ?_
    refine lv_isub hx hb dX6_takeDigits_57 ?_
    obtain ⟨hi4, hm⟩ := zix_s hm
    refine va_iald (i := (((32 * x1) + ((u 15) x1.toNatClampNeg)) - 1)) (f := (u 16)) (n := 256) hx hb hK hP 16 15 rfl rfl hi4 dX6_takeDigits_58 ?_
    refine lv_istore (lv' := [(4, .int ((u 16) (((32 * x1) + ((u 15) x1.toNatClampNeg)) - 1).toNatClampNeg)), (3, .int (32 * x1)), (0, .ref (ad 0)), (1, .int x1), (2, .int x2)]) hx hb dX6_takeDigits_59 hl (by decide) rfl (fun ls hl => ?_)
    refine lv_iconst (v := 2) hx hb dX6_takeDigits_61 (by decide) ?_
    refine lv_aload_n hx hb dX6_takeDigits_62 rfl (lv_at hl 2 rfl) ?_
    refine va_get (D := D) (ci := 5) (v := .ref (ad 15)) (C := RX6) (T := TX6) (N := 24) hx hb hw zinX6 hown hK hP 0 rfl rfl 17 (by decide) (hw _ zw50) (fun _ h9 => h9) rfl dX6_takeDigits_63 ?_
    refine lv_iload_n hx hb dX6_takeDigits_66 rfl (lv_at hl 3 rfl) ?_
    obtain ⟨hi5, hm⟩ := zix_s hm
    refine va_iald (i := x1) (f := (u 15)) (n := 9) hx hb hK hP 15 14 rfl rfl hi5 dX6_takeDigits_67 ?_
    refine lv_imul hx hb dX6_takeDigits_68 ?_
    refine lv_iload_n hx hb dX6_takeDigits_69 rfl (lv_at hl 4 rfl) ?_
    refine lv_isub hx hb dX6_takeDigits_70 ?_
    refine lv_iconst (v := 1) hx hb dX6_takeDigits_71 (by decide) ?_
    refine lv_isub hx hb dX6_takeDigits_72 ?_
    refine lv_istore (lv' := [(5, .int (((2 * ((u 15) x1.toNatClampNeg)) - x2) - 1)), (4, .int ((u 16) (((32 * x1) + ((u 15) x1.toNatClampNeg)) - 1).toNatClampNeg)), (3, .int (32 * x1)), (0, .ref (ad 0)), (1, .int x1), (2, .int x2)]) hx hb dX6_takeDigits_73 hl (by decide) rfl (fun ls hl => ?_)
    refine lv_iconst (v := 0) hx hb dX6_takeDigits_75 (by decide) ?_
    refine lv_istore (lv' := [(6, .int 0), (5, .int (((2 * ((u 15) x1.toNatClampNeg)) - x2) - 1)), (4, .int ((u 16) (((32 * x1) + ((u 15) x1.toNatClampNeg)) - 1).toNatClampNeg)), (3, .int (32 * x1)), (0, .ref (ad 0)), (1, .int x1), (2, .int x2)]) hx hb dX6_takeDigits_76 hl (by decide) rfl (fun ls hl => ?_)
    exact b_M_takeDigits_78 G0 hK hX 64 _ _ _ _ _ _ _ _ hm H _ _ hP hD hS (lv_sub hl [4, 5, 6, 3, 2, 1, 0] rfl)
  · replace hm := zf cd2 hm
    refine lv_iload_n hx hb dX6_takeDigits_14 rfl (lv_at hl 2 rfl) ?_
    refine lv_aload_n hx hb dX6_takeDigits_15 rfl (lv_at hl 0 rfl) ?_
    refine lv_iload_n hx hb dX6_takeDigits_16 rfl (lv_at hl 1 rfl) ?_
    refine lv_iload_n hx hb dX6_takeDigits_17 rfl (lv_at hl 3 rfl) ?_
    obtain ⟨q24, hq24, hm⟩ := zbind hm
    refine zbWi (va_runV (As := [.int x1, .int x3]) (rest := [.int x2]) ⟨hx, hb, hml, hown, hw⟩ (k_M_sym l D ad ca _ x1 x3 v u  q24 hq24) (zcV (C := RX6) 2 hw (zgood zw14) rfl rfl rfl zw7 zw16 zw15 zw17 hdX6_sym ⟨Nat.le_of_ble_eq_true rfl, Nat.le_of_ble_eq_true rfl⟩) (zpreV (zpre zN_ok trivial hS (zfree hD hS hA) hP hK hD) (va_recv hK hP rfl (q0 := 0) rfl)) rfl rfl hl.1 rfl (lv_room (Nat.le_of_ble_eq_true rfl)) dX6_takeDigits_18 ⟨Nat.zero_le _, Nat.zero_le _⟩) hS (zfree hD hS hA) (fun H locs hP hD hS => ?_)
    refine lv_bipush (v := 57) hx hb dX6_takeDigits_21 (by decide) ?_
    refine lv_icmp_ne (tgt := 30) hx hb dX6_takeDigits_23 rfl (fun cd25 => ?_) (fun cd25 => ?_)
    · replace hm := zf cd25 hm
      refine lv_iconst (v := 0) hx hb dX6_takeDigits_30 (by decide) ?_
      exact b_M_takeDigits_31 G0 hK hX rec hrec _ _ _ _ _ _ hm H _ _ hP hD hS (lv_sub hl [0, 1, 3] rfl)
    · replace hm := zt cd25 hm
      refine lv_iconst (v := 1) hx hb dX6_takeDigits_26 (by decide) ?_
      refine lv_goto (tgt := 31) hx hb dX6_takeDigits_27 rfl ?_
      exact b_M_takeDigits_31 G0 hK hX rec hrec _ _ _ _ _ _ hm H _ _ hP hD hS (lv_sub hl [0, 1, 3] rfl)
end
set_option maxRecDepth 100000 in
set_option maxHeartbeats 4000000 in
theorem k_M_takeDigits (l : Launch) (D : va_G) (ad : Nat → Nat) (ca : Nat → ClassId) (sz : Nat) (a0 : Int32) (v : Nat → Int32) (u : Nat → Nat → Int32) (res : (Nat → Int32) × (Nat → Nat → Int32)) (hm : m_M_takeDigits a0 v u  = some res) : Met l yX6_takeDigits (Cond.code yX6_takeDigits cX6_takeDigits 8 none :: zBIG) (zR 1 22) (va_Pc [.ref (ad 0), .int a0] (zP zN D vwCl (wM_t ca) (wM ad ca v u) sz)) (zQv D vwCl (wM ad ca v u) (wM ad ca res.1 res.2) sz) 0 0 (va_A (wM ad ca v u) sz) := by
  refine zEnter RX6 [.ref (ad 0), .int a0] (by decide) rfl (Nat.le_of_ble_eq_true rfl) (fun p e s m below meth c ls G hK hX hP hD hsz hl => ?_)
  subst hsz
  unfold m_M_takeDigits at hm
  have hl : lv_has ls 8 [(0, .ref (ad 0)), (1, .int a0)] := hl
  have hS : va_S (va_A (wM ad ca v u) s.heap.size) s.heap s.heap [] := va_S.rf
  have hA : ∀ q, s.heap.size ≤ q → va_A (wM ad ca v u) s.heap.size q := fun q h => Or.inr h
  have G0 := G
  obtain ⟨hx, hb, hr, hml, hown, hw, hlk⟩ := G
  refine lv_iconst (v := 0) hx hb dX6_takeDigits_0 (by decide) ?_
  refine lv_istore_n (lv' := [(2, .int 0), (0, .ref (ad 0)), (1, .int a0)]) hx hb dX6_takeDigits_1 rfl hl (by decide) rfl (fun ls hl => ?_)
  refine lv_iconst (v := 0) hx hb dX6_takeDigits_2 (by decide) ?_
  refine lv_istore_n (lv' := [(3, .int 0), (2, .int 0), (0, .ref (ad 0)), (1, .int a0)]) hx hb dX6_takeDigits_3 rfl hl (by decide) rfl (fun ls hl => ?_)
  exact b_M_takeDigits_4 G0 hK hX 64 _ _ _ _ _ hm _ _ _ hP hD hS (lv_sub hl [2, 3, 1, 0] rfl)

theorem dX6_takeEdited_0 : decode cX6_takeEdited 0 = .ok (.bipush 32, 2) := by decide +kernel
theorem dX6_takeEdited_2 : decode cX6_takeEdited 2 = .ok (.iload_n 1, 1) := by decide +kernel
theorem dX6_takeEdited_3 : decode cX6_takeEdited 3 = .ok (.imul, 1) := by decide +kernel
theorem dX6_takeEdited_4 : decode cX6_takeEdited 4 = .ok (.istore_n 2, 1) := by decide +kernel
theorem dX6_takeEdited_5 : decode cX6_takeEdited 5 = .ok (.iconst 0, 1) := by decide +kernel
theorem dX6_takeEdited_6 : decode cX6_takeEdited 6 = .ok (.istore_n 3, 1) := by decide +kernel
theorem dX6_takeEdited_7 : decode cX6_takeEdited 7 = .ok (.iload_n 3, 1) := by decide +kernel
theorem dX6_takeEdited_8 : decode cX6_takeEdited 8 = .ok (.aload_n 0, 1) := by decide +kernel
theorem dX6_takeEdited_9 : decode cX6_takeEdited 9 = .ok (.getfield 13, 3) := by decide +kernel
theorem dX6_takeEdited_12 : decode cX6_takeEdited 12 = .ok (.iload_n 1, 1) := by decide +kernel
theorem dX6_takeEdited_13 : decode cX6_takeEdited 13 = .ok (.iaload, 1) := by decide +kernel
theorem dX6_takeEdited_14 : decode cX6_takeEdited 14 = .ok (.if_icmp .ge 190, 3) := by decide +kernel
theorem dX6_takeEdited_17 : decode cX6_takeEdited 17 = .ok (.aload_n 0, 1) := by decide +kernel
theorem dX6_takeEdited_18 : decode cX6_takeEdited 18 = .ok (.getfield 19, 3) := by decide +kernel
theorem dX6_takeEdited_21 : decode cX6_takeEdited 21 = .ok (.bipush 24, 2) := by decide +kernel
theorem dX6_takeEdited_23 : decode cX6_takeEdited 23 = .ok (.iload_n 1, 1) := by decide +kernel
theorem dX6_takeEdited_24 : decode cX6_takeEdited 24 = .ok (.imul, 1) := by decide +kernel
theorem dX6_takeEdited_25 : decode cX6_takeEdited 25 = .ok (.iload_n 3, 1) := by decide +kernel
theorem dX6_takeEdited_26 : decode cX6_takeEdited 26 = .ok (.iadd, 1) := by decide +kernel
theorem dX6_takeEdited_27 : decode cX6_takeEdited 27 = .ok (.iaload, 1) := by decide +kernel
theorem dX6_takeEdited_28 : decode cX6_takeEdited 28 = .ok (.istore 4, 2) := by decide +kernel
theorem dX6_takeEdited_30 : decode cX6_takeEdited 30 = .ok (.aload_n 0, 1) := by decide +kernel
theorem dX6_takeEdited_31 : decode cX6_takeEdited 31 = .ok (.iload_n 1, 1) := by decide +kernel
theorem dX6_takeEdited_32 : decode cX6_takeEdited 32 = .ok (.iload_n 3, 1) := by decide +kernel
theorem dX6_takeEdited_33 : decode cX6_takeEdited 33 = .ok (.invokevirtual 93, 3) := by decide +kernel
theorem dX6_takeEdited_36 : decode cX6_takeEdited 36 = .ok (.istore 5, 2) := by decide +kernel
theorem dX6_takeEdited_38 : decode cX6_takeEdited 38 = .ok (.iload 4, 2) := by decide +kernel
theorem dX6_takeEdited_40 : decode cX6_takeEdited 40 = .ok (.ifCond .le 37, 3) := by decide +kernel
theorem dX6_takeEdited_43 : decode cX6_takeEdited 43 = .ok (.aload_n 0, 1) := by decide +kernel
theorem dX6_takeEdited_44 : decode cX6_takeEdited 44 = .ok (.getfield 59, 3) := by decide +kernel
theorem dX6_takeEdited_47 : decode cX6_takeEdited 47 = .ok (.iload 4, 2) := by decide +kernel
theorem dX6_takeEdited_49 : decode cX6_takeEdited 49 = .ok (.iconst 1, 1) := by decide +kernel
theorem dX6_takeEdited_50 : decode cX6_takeEdited 50 = .ok (.isub, 1) := by decide +kernel
theorem dX6_takeEdited_51 : decode cX6_takeEdited 51 = .ok (.aload_n 0, 1) := by decide +kernel
theorem dX6_takeEdited_52 : decode cX6_takeEdited 52 = .ok (.getfield 56, 3) := by decide +kernel
theorem dX6_takeEdited_55 : decode cX6_takeEdited 55 = .ok (.iload_n 2, 1) := by decide +kernel
theorem dX6_takeEdited_56 : decode cX6_takeEdited 56 = .ok (.iaload, 1) := by decide +kernel
theorem dX6_takeEdited_57 : decode cX6_takeEdited 57 = .ok (.invokestatic 79, 3) := by decide +kernel
theorem dX6_takeEdited_60 : decode cX6_takeEdited 60 = .ok (.ifCond .eq 15, 3) := by decide +kernel
theorem dX6_takeEdited_63 : decode cX6_takeEdited 63 = .ok (.aload_n 0, 1) := by decide +kernel
theorem dX6_takeEdited_64 : decode cX6_takeEdited 64 = .ok (.getfield 56, 3) := by decide +kernel
theorem dX6_takeEdited_67 : decode cX6_takeEdited 67 = .ok (.iload_n 2, 1) := by decide +kernel
theorem dX6_takeEdited_68 : decode cX6_takeEdited 68 = .ok (.iaload, 1) := by decide +kernel
theorem dX6_takeEdited_69 : decode cX6_takeEdited 69 = .ok (.bipush 48, 2) := by decide +kernel
theorem dX6_takeEdited_71 : decode cX6_takeEdited 71 = .ok (.isub, 1) := by decide +kernel
theorem dX6_takeEdited_72 : decode cX6_takeEdited 72 = .ok (.goto 4, 3) := by decide +kernel
theorem dX6_takeEdited_75 : decode cX6_takeEdited 75 = .ok (.iconst 0, 1) := by decide +kernel
theorem dX6_takeEdited_76 : decode cX6_takeEdited 76 = .ok (.iastore, 1) := by decide +kernel
theorem dX6_takeEdited_77 : decode cX6_takeEdited 77 = .ok (.iload 5, 2) := by decide +kernel
theorem dX6_takeEdited_79 : decode cX6_takeEdited 79 = .ok (.invokestatic 119, 3) := by decide +kernel
theorem dX6_takeEdited_82 : decode cX6_takeEdited 82 = .ok (.ifCond .le 14, 3) := by decide +kernel
theorem dX6_takeEdited_85 : decode cX6_takeEdited 85 = .ok (.aload_n 0, 1) := by decide +kernel
theorem dX6_takeEdited_86 : decode cX6_takeEdited 86 = .ok (.getfield 56, 3) := by decide +kernel
theorem dX6_takeEdited_89 : decode cX6_takeEdited 89 = .ok (.iload_n 2, 1) := by decide +kernel
theorem dX6_takeEdited_90 : decode cX6_takeEdited 90 = .ok (.iaload, 1) := by decide +kernel
theorem dX6_takeEdited_91 : decode cX6_takeEdited 91 = .ok (.bipush 45, 2) := by decide +kernel
theorem dX6_takeEdited_93 : decode cX6_takeEdited 93 = .ok (.if_icmp .eq 25, 3) := by decide +kernel
theorem dX6_takeEdited_96 : decode cX6_takeEdited 96 = .ok (.iload 5, 2) := by decide +kernel
theorem dX6_takeEdited_98 : decode cX6_takeEdited 98 = .ok (.invokestatic 119, 3) := by decide +kernel
theorem dX6_takeEdited_101 : decode cX6_takeEdited 101 = .ok (.iconst 2, 1) := by decide +kernel
theorem dX6_takeEdited_102 : decode cX6_takeEdited 102 = .ok (.if_icmp .ne 21, 3) := by decide +kernel
theorem dX6_takeEdited_105 : decode cX6_takeEdited 105 = .ok (.aload_n 0, 1) := by decide +kernel
theorem dX6_takeEdited_106 : decode cX6_takeEdited 106 = .ok (.getfield 56, 3) := by decide +kernel
theorem dX6_takeEdited_109 : decode cX6_takeEdited 109 = .ok (.iload_n 2, 1) := by decide +kernel
theorem dX6_takeEdited_110 : decode cX6_takeEdited 110 = .ok (.iconst 1, 1) := by decide +kernel
theorem dX6_takeEdited_111 : decode cX6_takeEdited 111 = .ok (.iadd, 1) := by decide +kernel
theorem dX6_takeEdited_112 : decode cX6_takeEdited 112 = .ok (.iaload, 1) := by decide +kernel
theorem dX6_takeEdited_113 : decode cX6_takeEdited 113 = .ok (.bipush 45, 2) := by decide +kernel
theorem dX6_takeEdited_115 : decode cX6_takeEdited 115 = .ok (.if_icmp .ne 8, 3) := by decide +kernel
theorem dX6_takeEdited_118 : decode cX6_takeEdited 118 = .ok (.aload_n 0, 1) := by decide +kernel
theorem dX6_takeEdited_119 : decode cX6_takeEdited 119 = .ok (.iconst 1, 1) := by decide +kernel
theorem dX6_takeEdited_120 : decode cX6_takeEdited 120 = .ok (.putfield 164, 3) := by decide +kernel
theorem dX6_takeEdited_123 : decode cX6_takeEdited 123 = .ok (.iload 5, 2) := by decide +kernel
theorem dX6_takeEdited_125 : decode cX6_takeEdited 125 = .ok (.bipush 67, 2) := by decide +kernel
theorem dX6_takeEdited_127 : decode cX6_takeEdited 127 = .ok (.if_icmp .ne 27, 3) := by decide +kernel
theorem dX6_takeEdited_130 : decode cX6_takeEdited 130 = .ok (.aload_n 0, 1) := by decide +kernel
theorem dX6_takeEdited_131 : decode cX6_takeEdited 131 = .ok (.getfield 56, 3) := by decide +kernel
theorem dX6_takeEdited_134 : decode cX6_takeEdited 134 = .ok (.iload_n 2, 1) := by decide +kernel
theorem dX6_takeEdited_135 : decode cX6_takeEdited 135 = .ok (.iaload, 1) := by decide +kernel
theorem dX6_takeEdited_136 : decode cX6_takeEdited 136 = .ok (.bipush 67, 2) := by decide +kernel
theorem dX6_takeEdited_138 : decode cX6_takeEdited 138 = .ok (.if_icmp .ne 16, 3) := by decide +kernel
theorem dX6_takeEdited_141 : decode cX6_takeEdited 141 = .ok (.aload_n 0, 1) := by decide +kernel
theorem dX6_takeEdited_142 : decode cX6_takeEdited 142 = .ok (.getfield 56, 3) := by decide +kernel
theorem dX6_takeEdited_145 : decode cX6_takeEdited 145 = .ok (.iload_n 2, 1) := by decide +kernel
theorem dX6_takeEdited_146 : decode cX6_takeEdited 146 = .ok (.iconst 1, 1) := by decide +kernel
theorem dX6_takeEdited_147 : decode cX6_takeEdited 147 = .ok (.iadd, 1) := by decide +kernel
theorem dX6_takeEdited_148 : decode cX6_takeEdited 148 = .ok (.iaload, 1) := by decide +kernel
theorem dX6_takeEdited_149 : decode cX6_takeEdited 149 = .ok (.bipush 82, 2) := by decide +kernel
theorem dX6_takeEdited_151 : decode cX6_takeEdited 151 = .ok (.if_icmp .eq 34, 3) := by decide +kernel
theorem dX6_takeEdited_154 : decode cX6_takeEdited 154 = .ok (.iload 5, 2) := by decide +kernel
theorem dX6_takeEdited_156 : decode cX6_takeEdited 156 = .ok (.bipush 68, 2) := by decide +kernel
theorem dX6_takeEdited_158 : decode cX6_takeEdited 158 = .ok (.if_icmp .ne 32, 3) := by decide +kernel
theorem dX6_takeEdited_161 : decode cX6_takeEdited 161 = .ok (.aload_n 0, 1) := by decide +kernel
theorem dX6_takeEdited_162 : decode cX6_takeEdited 162 = .ok (.getfield 56, 3) := by decide +kernel
theorem dX6_takeEdited_165 : decode cX6_takeEdited 165 = .ok (.iload_n 2, 1) := by decide +kernel
theorem dX6_takeEdited_166 : decode cX6_takeEdited 166 = .ok (.iaload, 1) := by decide +kernel
theorem dX6_takeEdited_167 : decode cX6_takeEdited 167 = .ok (.bipush 68, 2) := by decide +kernel
theorem dX6_takeEdited_169 : decode cX6_takeEdited 169 = .ok (.if_icmp .ne 21, 3) := by decide +kernel
theorem dX6_takeEdited_172 : decode cX6_takeEdited 172 = .ok (.aload_n 0, 1) := by decide +kernel
theorem dX6_takeEdited_173 : decode cX6_takeEdited 173 = .ok (.getfield 56, 3) := by decide +kernel
theorem dX6_takeEdited_176 : decode cX6_takeEdited 176 = .ok (.iload_n 2, 1) := by decide +kernel
theorem dX6_takeEdited_177 : decode cX6_takeEdited 177 = .ok (.iconst 1, 1) := by decide +kernel
theorem dX6_takeEdited_178 : decode cX6_takeEdited 178 = .ok (.iadd, 1) := by decide +kernel
theorem dX6_takeEdited_179 : decode cX6_takeEdited 179 = .ok (.iaload, 1) := by decide +kernel
theorem dX6_takeEdited_180 : decode cX6_takeEdited 180 = .ok (.bipush 66, 2) := by decide +kernel
theorem dX6_takeEdited_182 : decode cX6_takeEdited 182 = .ok (.if_icmp .ne 8, 3) := by decide +kernel
theorem dX6_takeEdited_185 : decode cX6_takeEdited 185 = .ok (.aload_n 0, 1) := by decide +kernel
theorem dX6_takeEdited_186 : decode cX6_takeEdited 186 = .ok (.iconst 1, 1) := by decide +kernel
theorem dX6_takeEdited_187 : decode cX6_takeEdited 187 = .ok (.putfield 164, 3) := by decide +kernel
theorem dX6_takeEdited_190 : decode cX6_takeEdited 190 = .ok (.iload_n 2, 1) := by decide +kernel
theorem dX6_takeEdited_191 : decode cX6_takeEdited 191 = .ok (.iload 5, 2) := by decide +kernel
theorem dX6_takeEdited_193 : decode cX6_takeEdited 193 = .ok (.invokestatic 119, 3) := by decide +kernel
theorem dX6_takeEdited_196 : decode cX6_takeEdited 196 = .ok (.iadd, 1) := by decide +kernel
theorem dX6_takeEdited_197 : decode cX6_takeEdited 197 = .ok (.istore_n 2, 1) := by decide +kernel
theorem dX6_takeEdited_198 : decode cX6_takeEdited 198 = .ok (.iinc 3 1, 3) := by decide +kernel
theorem dX6_takeEdited_201 : decode cX6_takeEdited 201 = .ok (.goto (-194), 3) := by decide +kernel
theorem dX6_takeEdited_204 : decode cX6_takeEdited 204 = .ok (.aload_n 0, 1) := by decide +kernel
theorem dX6_takeEdited_205 : decode cX6_takeEdited 205 = .ok (.aload_n 0, 1) := by decide +kernel
theorem dX6_takeEdited_206 : decode cX6_takeEdited 206 = .ok (.getfield 31, 3) := by decide +kernel
theorem dX6_takeEdited_209 : decode cX6_takeEdited 209 = .ok (.iload_n 1, 1) := by decide +kernel
theorem dX6_takeEdited_210 : decode cX6_takeEdited 210 = .ok (.iaload, 1) := by decide +kernel
theorem dX6_takeEdited_211 : decode cX6_takeEdited 211 = .ok (.putfield 161, 3) := by decide +kernel
theorem dX6_takeEdited_214 : decode cX6_takeEdited 214 = .ok (.return_, 1) := by decide +kernel
def m_M_takeEdited_190  (rec : Int32 → Int32 → Int32 → (Nat → Int32) → (Nat → Nat → Int32) → Option ((Nat → Int32) × (Nat → Nat → Int32))) (x1 : Int32) (x2 : Int32) (x3 : Int32) (x5 : Int32) (v : Nat → Int32) (u : Nat → Nat → Int32) : Option ((Nat → Int32) × (Nat → Nat → Int32)) := (m_M_width x5).bind (fun q13 => rec x1 (x2 + q13) (x3 + 1) v u)
def m_M_takeEdited_185  (rec : Int32 → Int32 → Int32 → (Nat → Int32) → (Nat → Nat → Int32) → Option ((Nat → Int32) × (Nat → Nat → Int32))) (x1 : Int32) (x2 : Int32) (x3 : Int32) (x5 : Int32) (v : Nat → Int32) (u : Nat → Nat → Int32) : Option ((Nat → Int32) × (Nat → Nat → Int32)) := zbo 1 (m_M_takeEdited_190  rec x1 x2 x3 x5 (upd v 21 1) u)
def m_M_takeEdited_154  (rec : Int32 → Int32 → Int32 → (Nat → Int32) → (Nat → Nat → Int32) → Option ((Nat → Int32) × (Nat → Nat → Int32))) (x1 : Int32) (x2 : Int32) (x3 : Int32) (x5 : Int32) (v : Nat → Int32) (u : Nat → Nat → Int32) : Option ((Nat → Int32) × (Nat → Nat → Int32)) := (if x5 = 68 then zix x2 256 ((if ((u 16) x2.toNatClampNeg) = 68 then zix (x2 + 1) 256 ((if ((u 16) (x2 + 1).toNatClampNeg) = 66 then m_M_takeEdited_185  rec x1 x2 x3 x5 v u else m_M_takeEdited_190  rec x1 x2 x3 x5 v u)) else m_M_takeEdited_190  rec x1 x2 x3 x5 v u)) else m_M_takeEdited_190  rec x1 x2 x3 x5 v u)
def m_M_takeEdited_123  (rec : Int32 → Int32 → Int32 → (Nat → Int32) → (Nat → Nat → Int32) → Option ((Nat → Int32) × (Nat → Nat → Int32))) (x1 : Int32) (x2 : Int32) (x3 : Int32) (x5 : Int32) (v : Nat → Int32) (u : Nat → Nat → Int32) : Option ((Nat → Int32) × (Nat → Nat → Int32)) := (if x5 = 67 then zix x2 256 ((if ((u 16) x2.toNatClampNeg) = 67 then zix (x2 + 1) 256 ((if ((u 16) (x2 + 1).toNatClampNeg) = 82 then m_M_takeEdited_185  rec x1 x2 x3 x5 v u else m_M_takeEdited_154  rec x1 x2 x3 x5 v u)) else m_M_takeEdited_154  rec x1 x2 x3 x5 v u)) else m_M_takeEdited_154  rec x1 x2 x3 x5 v u)
def m_M_takeEdited_118  (rec : Int32 → Int32 → Int32 → (Nat → Int32) → (Nat → Nat → Int32) → Option ((Nat → Int32) × (Nat → Nat → Int32))) (x1 : Int32) (x2 : Int32) (x3 : Int32) (x5 : Int32) (v : Nat → Int32) (u : Nat → Nat → Int32) : Option ((Nat → Int32) × (Nat → Nat → Int32)) := zbo 1 (m_M_takeEdited_123  rec x1 x2 x3 x5 (upd v 21 1) u)
def m_M_takeEdited_96  (rec : Int32 → Int32 → Int32 → (Nat → Int32) → (Nat → Nat → Int32) → Option ((Nat → Int32) × (Nat → Nat → Int32))) (x1 : Int32) (x2 : Int32) (x3 : Int32) (x5 : Int32) (v : Nat → Int32) (u : Nat → Nat → Int32) : Option ((Nat → Int32) × (Nat → Nat → Int32)) := (m_M_width x5).bind (fun q9 => (if q9 = 2 then zix (x2 + 1) 256 ((if ((u 16) (x2 + 1).toNatClampNeg) = 45 then m_M_takeEdited_118  rec x1 x2 x3 x5 v u else m_M_takeEdited_123  rec x1 x2 x3 x5 v u)) else m_M_takeEdited_123  rec x1 x2 x3 x5 v u))
def m_M_takeEdited_77  (rec : Int32 → Int32 → Int32 → (Nat → Int32) → (Nat → Nat → Int32) → Option ((Nat → Int32) × (Nat → Nat → Int32))) (x1 : Int32) (x2 : Int32) (x3 : Int32) (x5 : Int32) (v : Nat → Int32) (u : Nat → Nat → Int32) : Option ((Nat → Int32) × (Nat → Nat → Int32)) := (m_M_width x5).bind (fun q7 => (if q7 ≤ 0 then m_M_takeEdited_96  rec x1 x2 x3 x5 v u else zix x2 256 ((if ((u 16) x2.toNatClampNeg) = 45 then m_M_takeEdited_118  rec x1 x2 x3 x5 v u else m_M_takeEdited_96  rec x1 x2 x3 x5 v u))))
def m_M_takeEdited_76  (rec : Int32 → Int32 → Int32 → (Nat → Int32) → (Nat → Nat → Int32) → Option ((Nat → Int32) × (Nat → Nat → Int32))) (x1 : Int32) (x2 : Int32) (x3 : Int32) (x5 : Int32) (t0 : Int32) (t1 : Int32) (v : Nat → Int32) (u : Nat → Nat → Int32) : Option ((Nat → Int32) × (Nat → Nat → Int32)) := zix t1 48 (m_M_takeEdited_77  rec x1 x2 x3 x5 v (zau u 17 t1 t0))
def m_M_takeEdited_7b  (rec : Int32 → Int32 → Int32 → (Nat → Int32) → (Nat → Nat → Int32) → Option ((Nat → Int32) × (Nat → Nat → Int32))) (x1 : Int32) (x2 : Int32) (x3 : Int32) (v : Nat → Int32) (u : Nat → Nat → Int32) : Option ((Nat → Int32) × (Nat → Nat → Int32)) := zix x1 9 ((if ((u 2) x1.toNatClampNeg) ≤ x3 then zix x1 9 ((some ((upd v 20 ((u 8) x1.toNatClampNeg)), u))) else zix ((24 * x1) + x3) 216 ((m_M_sym x1 x3 v u).bind (fun q5 => (if ((u 4) ((24 * x1) + x3).toNatClampNeg) ≤ 0 then m_M_takeEdited_77  rec x1 x2 x3 q5 v u else zix x2 256 ((m_M_isDigit ((u 16) x2.toNatClampNeg)).bind (fun q31 => (if q31 = 0 then m_M_takeEdited_76  rec x1 x2 x3 q5 0 (((u 4) ((24 * x1) + x3).toNatClampNeg) - 1) v u else zix x2 256 (m_M_takeEdited_76  rec x1 x2 x3 q5 (((u 16) x2.toNatClampNeg) - 48) (((u 4) ((24 * x1) + x3).toNatClampNeg) - 1) v u)))))))))
def m_M_takeEdited_7  : Nat → Int32 → Int32 → Int32 → (Nat → Int32) → (Nat → Nat → Int32) → Option ((Nat → Int32) × (Nat → Nat → Int32))
  | 0 => fun _ _ _ _ _ => none
  | n + 1 => fun x1 x2 x3 v u => m_M_takeEdited_7b  (m_M_takeEdited_7  n) x1 x2 x3 v u
def m_M_takeEdited (a0 : Int32) (v : Nat → Int32) (u : Nat → Nat → Int32)  : Option ((Nat → Int32) × (Nat → Nat → Int32)) := m_M_takeEdited_7  64 a0 (32 * a0) 0 v u
section
variable {p : Program} {l : Launch} {e : Env} {s : State} {m : MethodId} {args : Array Value} {below : List Frame} {meth : Method} {c : Code} {D : va_G} {w0 : va_W} {ad : Nat → Nat} {ca : Nat → ClassId}
set_option maxRecDepth 100000 in
set_option maxHeartbeats 4000000 in
theorem b_M_takeEdited_190 (G : zG p s m args meth c cX6_takeEdited RX6 6 none) (hK : va_K D vwCl (wM_t ca) s) (hX : zN (va_A w0 s.heap.size) s) {res : (Nat → Int32) × (Nat → Nat → Int32)} (rec : Int32 → Int32 → Int32 → (Nat → Int32) → (Nat → Nat → Int32) → Option ((Nat → Int32) × (Nat → Nat → Int32))) (hrec : ∀ (x1 : Int32) (x2 : Int32) (x3 : Int32) (v : Nat → Int32) (u : Nat → Nat → Int32), rec x1 x2 x3 v u = some res → zB p l e (zR 1 22) s m args below meth c D vwCl (va_A w0 s.heap.size) (MQ below (zQv D vwCl w0 (wM ad ca res.1 res.2) s.heap.size) args s 0 0 (va_A w0 s.heap.size)) 6 (wM ad ca v u) [(0, .ref (ad 0)), (1, .int x1), (2, .int x2), (3, .int x3)] 7 []) : ∀ (x1 : Int32) (x2 : Int32) (x3 : Int32) (x5 : Int32) (v : Nat → Int32) (u : Nat → Nat → Int32), m_M_takeEdited_190  rec x1 x2 x3 x5 v u = some res → zB p l e (zR 1 22) s m args below meth c D vwCl (va_A w0 s.heap.size) (MQ below (zQv D vwCl w0 (wM ad ca res.1 res.2) s.heap.size) args s 0 0 (va_A w0 s.heap.size)) 6 (wM ad ca v u) [(0, .ref (ad 0)), (1, .int x1), (2, .int x2), (3, .int x3), (5, .int x5)] 190 [] := by
  intro x1 x2 x3 x5 v u hm H locs ls hP hD hS hl
  unfold m_M_takeEdited_190 at hm
  have G0 := G
  obtain ⟨hx, hb, hr, hml, hown, hw, hlk⟩ := G
  have hA : ∀ q, s.heap.size ≤ q → va_A w0 s.heap.size q := fun q h => Or.inr h
  refine lv_iload_n hx hb dX6_takeEdited_190 rfl (lv_at hl 2 rfl) ?_
  refine lv_iload hx hb dX6_takeEdited_191 (lv_at hl 4 rfl) ?_
  obtain ⟨q13, hq13, hm⟩ := zbind hm
  refine zb0i (va_runS (As := [.int x5]) (rest := [.int x2]) ⟨hx, hb, hml, hown, hw⟩ (k_M_width l D  _ x5  q13 hq13) ⟨zcB 1 hw (zgood zw72) rfl rfl rfl zw7 zw74 hdX6_width ⟨Nat.le_of_ble_eq_true rfl, Nat.le_of_ble_eq_true rfl⟩, hw _ zw73⟩ (zpre zN_ok trivial hS (zfree0 hS hA) zP0 (hK.sub (tys' := []) [] rfl) zD0) rfl rfl hl.1 rfl (lv_room (Nat.le_of_ble_eq_true rfl)) dX6_takeEdited_193 ⟨Nat.zero_le _, Nat.zero_le _⟩) hP hD hS (zfree0 hS hA) (fun H locs hP hD hS => ?_)
  refine lv_iadd hx hb dX6_takeEdited_196 ?_
  refine lv_istore_n (lv' := [(2, .int (x2 + q13)), (0, .ref (ad 0)), (1, .int x1), (3, .int x3), (5, .int x5)]) hx hb dX6_takeEdited_197 rfl hl (by decide) rfl (fun ls hl => ?_)
  refine lv_iinc (k := 3) (v := (x3 + 1)) (lv' := [(3, .int (x3 + 1)), (2, .int (x2 + q13)), (0, .ref (ad 0)), (1, .int x1), (5, .int x5)]) hx hb dX6_takeEdited_198 hl rfl rfl (by decide) rfl (fun ls hl => ?_)
  refine lv_goto (tgt := 7) hx hb dX6_takeEdited_201 rfl ?_
  exact hrec _ _ _ _ _ hm H _ _ hP hD hS (lv_sub hl [2, 3, 1, 0] rfl)
set_option maxRecDepth 100000 in
set_option maxHeartbeats 4000000 in
theorem b_M_takeEdited_185 (G : zG p s m args meth c cX6_takeEdited RX6 6 none) (hK : va_K D vwCl (wM_t ca) s) (hX : zN (va_A w0 s.heap.size) s) {res : (Nat → Int32) × (Nat → Nat → Int32)} (rec : Int32 → Int32 → Int32 → (Nat → Int32) → (Nat → Nat → Int32) → Option ((Nat → Int32) × (Nat → Nat → Int32))) (hrec : ∀ (x1 : Int32) (x2 : Int32) (x3 : Int32) (v : Nat → Int32) (u : Nat → Nat → Int32), rec x1 x2 x3 v u = some res → zB p l e (zR 1 22) s m args below meth c D vwCl (va_A w0 s.heap.size) (MQ below (zQv D vwCl w0 (wM ad ca res.1 res.2) s.heap.size) args s 0 0 (va_A w0 s.heap.size)) 6 (wM ad ca v u) [(0, .ref (ad 0)), (1, .int x1), (2, .int x2), (3, .int x3)] 7 []) : ∀ (x1 : Int32) (x2 : Int32) (x3 : Int32) (x5 : Int32) (v : Nat → Int32) (u : Nat → Nat → Int32), m_M_takeEdited_185  rec x1 x2 x3 x5 v u = some res → zB p l e (zR 1 22) s m args below meth c D vwCl (va_A w0 s.heap.size) (MQ below (zQv D vwCl w0 (wM ad ca res.1 res.2) s.heap.size) args s 0 0 (va_A w0 s.heap.size)) 6 (wM ad ca v u) [(0, .ref (ad 0)), (1, .int x1), (2, .int x2), (3, .int x3), (5, .int x5)] 185 [] := by
  intro x1 x2 x3 x5 v u hm H locs ls hP hD hS hl
  unfold m_M_takeEdited_185 at hm
  have G0 := G
  obtain ⟨hx, hb, hr, hml, hown, hw, hlk⟩ := G
  have hA : ∀ q, s.heap.size ≤ q → va_A w0 s.heap.size q := fun q h => Or.inr h
  refine lv_aload_n hx hb dX6_takeEdited_185 rfl (lv_at hl 0 rfl) ?_
  refine lv_iconst (v := 1) hx hb dX6_takeEdited_186 (by decide) ?_
  obtain ⟨hz18, hz19, hm⟩ := zbo_s hm
  refine va_put (D := D) (ci := 5) (v := .int 1) (ty := .boolean) (C := RX6) (T := TX6) (N := 24) hx hb hw zinX6 tyX6 tyX6_ok nmX6 hown hK hP hD hS 0 rfl rfl 21 (by decide) (hw _ zw19) (fun _ h9 => h9) rfl (by decide +kernel) hz18 hz19 (Nat.le_of_ble_eq_true rfl) dX6_takeEdited_187 (fun H locs hP hD hS => ?_)
  have hP : va_P D vwCl (wM ad ca (upd v 21 1) u) H := hP
  have hD : va_D _ (wM ad ca (upd v 21 1) u) := hD
  exact b_M_takeEdited_190 G0 hK hX rec hrec _ _ _ _ _ _ hm H _ _ hP hD hS hl
set_option maxRecDepth 100000 in
set_option maxHeartbeats 4000000 in
theorem b_M_takeEdited_154 (G : zG p s m args meth c cX6_takeEdited RX6 6 none) (hK : va_K D vwCl (wM_t ca) s) (hX : zN (va_A w0 s.heap.size) s) {res : (Nat → Int32) × (Nat → Nat → Int32)} (rec : Int32 → Int32 → Int32 → (Nat → Int32) → (Nat → Nat → Int32) → Option ((Nat → Int32) × (Nat → Nat → Int32))) (hrec : ∀ (x1 : Int32) (x2 : Int32) (x3 : Int32) (v : Nat → Int32) (u : Nat → Nat → Int32), rec x1 x2 x3 v u = some res → zB p l e (zR 1 22) s m args below meth c D vwCl (va_A w0 s.heap.size) (MQ below (zQv D vwCl w0 (wM ad ca res.1 res.2) s.heap.size) args s 0 0 (va_A w0 s.heap.size)) 6 (wM ad ca v u) [(0, .ref (ad 0)), (1, .int x1), (2, .int x2), (3, .int x3)] 7 []) : ∀ (x1 : Int32) (x2 : Int32) (x3 : Int32) (x5 : Int32) (v : Nat → Int32) (u : Nat → Nat → Int32), m_M_takeEdited_154  rec x1 x2 x3 x5 v u = some res → zB p l e (zR 1 22) s m args below meth c D vwCl (va_A w0 s.heap.size) (MQ below (zQv D vwCl w0 (wM ad ca res.1 res.2) s.heap.size) args s 0 0 (va_A w0 s.heap.size)) 6 (wM ad ca v u) [(0, .ref (ad 0)), (1, .int x1), (2, .int x2), (3, .int x3), (5, .int x5)] 154 [] := by
  intro x1 x2 x3 x5 v u hm H locs ls hP hD hS hl
  unfold m_M_takeEdited_154 at hm
  have G0 := G
  obtain ⟨hx, hb, hr, hml, hown, hw, hlk⟩ := G
  have hA : ∀ q, s.heap.size ≤ q → va_A w0 s.heap.size q := fun q h => Or.inr h
  refine lv_iload hx hb dX6_takeEdited_154 (lv_at hl 4 rfl) ?_
  refine lv_bipush (v := 68) hx hb dX6_takeEdited_156 (by decide) ?_
  refine lv_icmp_ne (tgt := 190) hx hb dX6_takeEdited_158 rfl (fun cd12 => ?_) (fun cd12 => ?_)
  · replace hm := zf cd12 hm
    exact b_M_takeEdited_190 G0 hK hX rec hrec _ _ _ _ _ _ hm H _ _ hP hD hS hl
  · replace hm := zt cd12 hm
    refine lv_aload_n hx hb dX6_takeEdited_161 rfl (lv_at hl 0 rfl) ?_
    refine va_get (D := D) (ci := 5) (v := .ref (ad 16)) (C := RX6) (T := TX6) (N := 24) hx hb hw zinX6 hown hK hP 0 rfl rfl 18 (by decide) (hw _ zw114) (fun _ h9 => h9) rfl dX6_takeEdited_162 ?_
    refine lv_iload_n hx hb dX6_takeEdited_165 rfl (lv_at hl 2 rfl) ?_
    obtain ⟨hi14, hm⟩ := zix_s hm
    refine va_iald (i := x2) (f := (u 16)) (n := 256) hx hb hK hP 16 15 rfl rfl hi14 dX6_takeEdited_166 ?_
    refine lv_bipush (v := 68) hx hb dX6_takeEdited_167 (by decide) ?_
    refine lv_icmp_ne (tgt := 190) hx hb dX6_takeEdited_169 rfl (fun cd15 => ?_) (fun cd15 => ?_)
    · replace hm := zf cd15 hm
      exact b_M_takeEdited_190 G0 hK hX rec hrec _ _ _ _ _ _ hm H _ _ hP hD hS hl
    · replace hm := zt cd15 hm
      refine lv_aload_n hx hb dX6_takeEdited_172 rfl (lv_at hl 0 rfl) ?_
      refine va_get (D := D) (ci := 5) (v := .ref (ad 16)) (C := RX6) (T := TX6) (N := 24) hx hb hw zinX6 hown hK hP 0 rfl rfl 18 (by decide) (hw _ zw114) (fun _ h9 => h9) rfl dX6_takeEdited_173 ?_
      refine lv_iload_n hx hb dX6_takeEdited_176 rfl (lv_at hl 2 rfl) ?_
      refine lv_iconst (v := 1) hx hb dX6_takeEdited_177 (by decide) ?_
      refine lv_iadd hx hb dX6_takeEdited_178 ?_
      obtain ⟨hi16, hm⟩ := zix_s hm
      refine va_iald (i := (x2 + 1)) (f := (u 16)) (n := 256) hx hb hK hP 16 15 rfl rfl hi16 dX6_takeEdited_179 ?_
      refine lv_bipush (v := 66) hx hb dX6_takeEdited_180 (by decide) ?_
      refine lv_icmp_ne (tgt := 190) hx hb dX6_takeEdited_182 rfl (fun cd17 => ?_) (fun cd17 => ?_)
      · replace hm := zf cd17 hm
        exact b_M_takeEdited_190 G0 hK hX rec hrec _ _ _ _ _ _ hm H _ _ hP hD hS hl
      · replace hm := zt cd17 hm
        exact b_M_takeEdited_185 G0 hK hX rec hrec _ _ _ _ _ _ hm H _ _ hP hD hS hl
set_option maxRecDepth 100000 in
set_option maxHeartbeats 4000000 in
theorem b_M_takeEdited_123 (G : zG p s m args meth c cX6_takeEdited RX6 6 none) (hK : va_K D vwCl (wM_t ca) s) (hX : zN (va_A w0 s.heap.size) s) {res : (Nat → Int32) × (Nat → Nat → Int32)} (rec : Int32 → Int32 → Int32 → (Nat → Int32) → (Nat → Nat → Int32) → Option ((Nat → Int32) × (Nat → Nat → Int32))) (hrec : ∀ (x1 : Int32) (x2 : Int32) (x3 : Int32) (v : Nat → Int32) (u : Nat → Nat → Int32), rec x1 x2 x3 v u = some res → zB p l e (zR 1 22) s m args below meth c D vwCl (va_A w0 s.heap.size) (MQ below (zQv D vwCl w0 (wM ad ca res.1 res.2) s.heap.size) args s 0 0 (va_A w0 s.heap.size)) 6 (wM ad ca v u) [(0, .ref (ad 0)), (1, .int x1), (2, .int x2), (3, .int x3)] 7 []) : ∀ (x1 : Int32) (x2 : Int32) (x3 : Int32) (x5 : Int32) (v : Nat → Int32) (u : Nat → Nat → Int32), m_M_takeEdited_123  rec x1 x2 x3 x5 v u = some res → zB p l e (zR 1 22) s m args below meth c D vwCl (va_A w0 s.heap.size) (MQ below (zQv D vwCl w0 (wM ad ca res.1 res.2) s.heap.size) args s 0 0 (va_A w0 s.heap.size)) 6 (wM ad ca v u) [(0, .ref (ad 0)), (1, .int x1), (2, .int x2), (3, .int x3), (5, .int x5)] 123 [] := by
  intro x1 x2 x3 x5 v u hm H locs ls hP hD hS hl
  unfold m_M_takeEdited_123 at hm
  have G0 := G
  obtain ⟨hx, hb, hr, hml, hown, hw, hlk⟩ := G
  have hA : ∀ q, s.heap.size ≤ q → va_A w0 s.heap.size q := fun q h => Or.inr h
  refine lv_iload hx hb dX6_takeEdited_123 (lv_at hl 4 rfl) ?_
  refine lv_bipush (v := 67) hx hb dX6_takeEdited_125 (by decide) ?_
  refine lv_icmp_ne (tgt := 154) hx hb dX6_takeEdited_127 rfl (fun cd11 => ?_) (fun cd11 => ?_)
  · replace hm := zf cd11 hm
    exact b_M_takeEdited_154 G0 hK hX rec hrec _ _ _ _ _ _ hm H _ _ hP hD hS hl
  · replace hm := zt cd11 hm
    refine lv_aload_n hx hb dX6_takeEdited_130 rfl (lv_at hl 0 rfl) ?_
    refine va_get (D := D) (ci := 5) (v := .ref (ad 16)) (C := RX6) (T := TX6) (N := 24) hx hb hw zinX6 hown hK hP 0 rfl rfl 18 (by decide) (hw _ zw114) (fun _ h9 => h9) rfl dX6_takeEdited_131 ?_
    refine lv_iload_n hx hb dX6_takeEdited_134 rfl (lv_at hl 2 rfl) ?_
    obtain ⟨hi20, hm⟩ := zix_s hm
    refine va_iald (i := x2) (f := (u 16)) (n := 256) hx hb hK hP 16 15 rfl rfl hi20 dX6_takeEdited_135 ?_
    refine lv_bipush (v := 67) hx hb dX6_takeEdited_136 (by decide) ?_
    refine lv_icmp_ne (tgt := 154) hx hb dX6_takeEdited_138 rfl (fun cd21 => ?_) (fun cd21 => ?_)
    · replace hm := zf cd21 hm
      exact b_M_takeEdited_154 G0 hK hX rec hrec _ _ _ _ _ _ hm H _ _ hP hD hS hl
    · replace hm := zt cd21 hm
      refine lv_aload_n hx hb dX6_takeEdited_141 rfl (lv_at hl 0 rfl) ?_
      refine va_get (D := D) (ci := 5) (v := .ref (ad 16)) (C := RX6) (T := TX6) (N := 24) hx hb hw zinX6 hown hK hP 0 rfl rfl 18 (by decide) (hw _ zw114) (fun _ h9 => h9) rfl dX6_takeEdited_142 ?_
      refine lv_iload_n hx hb dX6_takeEdited_145 rfl (lv_at hl 2 rfl) ?_
      refine lv_iconst (v := 1) hx hb dX6_takeEdited_146 (by decide) ?_
      refine lv_iadd hx hb dX6_takeEdited_147 ?_
      obtain ⟨hi22, hm⟩ := zix_s hm
      refine va_iald (i := (x2 + 1)) (f := (u 16)) (n := 256) hx hb hK hP 16 15 rfl rfl hi22 dX6_takeEdited_148 ?_
      refine lv_bipush (v := 82) hx hb dX6_takeEdited_149 (by decide) ?_
      refine lv_icmp_eq (tgt := 185) hx hb dX6_takeEdited_151 rfl (fun cd23 => ?_) (fun cd23 => ?_)
      · replace hm := zt cd23 hm
        exact b_M_takeEdited_185 G0 hK hX rec hrec _ _ _ _ _ _ hm H _ _ hP hD hS hl
      · replace hm := zf cd23 hm
        exact b_M_takeEdited_154 G0 hK hX rec hrec _ _ _ _ _ _ hm H _ _ hP hD hS hl
set_option maxRecDepth 100000 in
set_option maxHeartbeats 4000000 in
theorem b_M_takeEdited_118 (G : zG p s m args meth c cX6_takeEdited RX6 6 none) (hK : va_K D vwCl (wM_t ca) s) (hX : zN (va_A w0 s.heap.size) s) {res : (Nat → Int32) × (Nat → Nat → Int32)} (rec : Int32 → Int32 → Int32 → (Nat → Int32) → (Nat → Nat → Int32) → Option ((Nat → Int32) × (Nat → Nat → Int32))) (hrec : ∀ (x1 : Int32) (x2 : Int32) (x3 : Int32) (v : Nat → Int32) (u : Nat → Nat → Int32), rec x1 x2 x3 v u = some res → zB p l e (zR 1 22) s m args below meth c D vwCl (va_A w0 s.heap.size) (MQ below (zQv D vwCl w0 (wM ad ca res.1 res.2) s.heap.size) args s 0 0 (va_A w0 s.heap.size)) 6 (wM ad ca v u) [(0, .ref (ad 0)), (1, .int x1), (2, .int x2), (3, .int x3)] 7 []) : ∀ (x1 : Int32) (x2 : Int32) (x3 : Int32) (x5 : Int32) (v : Nat → Int32) (u : Nat → Nat → Int32), m_M_takeEdited_118  rec x1 x2 x3 x5 v u = some res → zB p l e (zR 1 22) s m args below meth c D vwCl (va_A w0 s.heap.size) (MQ below (zQv D vwCl w0 (wM ad ca res.1 res.2) s.heap.size) args s 0 0 (va_A w0 s.heap.size)) 6 (wM ad ca v u) [(0, .ref (ad 0)), (1, .int x1), (2, .int x2), (3, .int x3), (5, .int x5)] 118 [] := by
  intro x1 x2 x3 x5 v u hm H locs ls hP hD hS hl
  unfold m_M_takeEdited_118 at hm
  have G0 := G
  obtain ⟨hx, hb, hr, hml, hown, hw, hlk⟩ := G
  have hA : ∀ q, s.heap.size ≤ q → va_A w0 s.heap.size q := fun q h => Or.inr h
  refine lv_aload_n hx hb dX6_takeEdited_118 rfl (lv_at hl 0 rfl) ?_
  refine lv_iconst (v := 1) hx hb dX6_takeEdited_119 (by decide) ?_
  obtain ⟨hz26, hz27, hm⟩ := zbo_s hm
  refine va_put (D := D) (ci := 5) (v := .int 1) (ty := .boolean) (C := RX6) (T := TX6) (N := 24) hx hb hw zinX6 tyX6 tyX6_ok nmX6 hown hK hP hD hS 0 rfl rfl 21 (by decide) (hw _ zw19) (fun _ h9 => h9) rfl (by decide +kernel) hz26 hz27 (Nat.le_of_ble_eq_true rfl) dX6_takeEdited_120 (fun H locs hP hD hS => ?_)
  have hP : va_P D vwCl (wM ad ca (upd v 21 1) u) H := hP
  have hD : va_D _ (wM ad ca (upd v 21 1) u) := hD
  exact b_M_takeEdited_123 G0 hK hX rec hrec _ _ _ _ _ _ hm H _ _ hP hD hS hl
set_option maxRecDepth 100000 in
set_option maxHeartbeats 4000000 in
theorem b_M_takeEdited_96 (G : zG p s m args meth c cX6_takeEdited RX6 6 none) (hK : va_K D vwCl (wM_t ca) s) (hX : zN (va_A w0 s.heap.size) s) {res : (Nat → Int32) × (Nat → Nat → Int32)} (rec : Int32 → Int32 → Int32 → (Nat → Int32) → (Nat → Nat → Int32) → Option ((Nat → Int32) × (Nat → Nat → Int32))) (hrec : ∀ (x1 : Int32) (x2 : Int32) (x3 : Int32) (v : Nat → Int32) (u : Nat → Nat → Int32), rec x1 x2 x3 v u = some res → zB p l e (zR 1 22) s m args below meth c D vwCl (va_A w0 s.heap.size) (MQ below (zQv D vwCl w0 (wM ad ca res.1 res.2) s.heap.size) args s 0 0 (va_A w0 s.heap.size)) 6 (wM ad ca v u) [(0, .ref (ad 0)), (1, .int x1), (2, .int x2), (3, .int x3)] 7 []) : ∀ (x1 : Int32) (x2 : Int32) (x3 : Int32) (x5 : Int32) (v : Nat → Int32) (u : Nat → Nat → Int32), m_M_takeEdited_96  rec x1 x2 x3 x5 v u = some res → zB p l e (zR 1 22) s m args below meth c D vwCl (va_A w0 s.heap.size) (MQ below (zQv D vwCl w0 (wM ad ca res.1 res.2) s.heap.size) args s 0 0 (va_A w0 s.heap.size)) 6 (wM ad ca v u) [(0, .ref (ad 0)), (1, .int x1), (2, .int x2), (3, .int x3), (5, .int x5)] 96 [] := by
  intro x1 x2 x3 x5 v u hm H locs ls hP hD hS hl
  unfold m_M_takeEdited_96 at hm
  have G0 := G
  obtain ⟨hx, hb, hr, hml, hown, hw, hlk⟩ := G
  have hA : ∀ q, s.heap.size ≤ q → va_A w0 s.heap.size q := fun q h => Or.inr h
  refine lv_iload hx hb dX6_takeEdited_96 (lv_at hl 4 rfl) ?_
  obtain ⟨q9, hq9, hm⟩ := zbind hm
  refine zb0i (va_runS (As := [.int x5]) (rest := []) ⟨hx, hb, hml, hown, hw⟩ (k_M_width l D  _ x5  q9 hq9) ⟨zcB 1 hw (zgood zw72) rfl rfl rfl zw7 zw74 hdX6_width ⟨Nat.le_of_ble_eq_true rfl, Nat.le_of_ble_eq_true rfl⟩, hw _ zw73⟩ (zpre zN_ok trivial hS (zfree0 hS hA) zP0 (hK.sub (tys' := []) [] rfl) zD0) rfl rfl hl.1 rfl (lv_room (Nat.le_of_ble_eq_true rfl)) dX6_takeEdited_98 ⟨Nat.zero_le _, Nat.zero_le _⟩) hP hD hS (zfree0 hS hA) (fun H locs hP hD hS => ?_)
  refine lv_iconst (v := 2) hx hb dX6_takeEdited_101 (by decide) ?_
  refine lv_icmp_ne (tgt := 123) hx hb dX6_takeEdited_102 rfl (fun cd10 => ?_) (fun cd10 => ?_)
  · replace hm := zf cd10 hm
    exact b_M_takeEdited_123 G0 hK hX rec hrec _ _ _ _ _ _ hm H _ _ hP hD hS hl
  · replace hm := zt cd10 hm
    refine lv_aload_n hx hb dX6_takeEdited_105 rfl (lv_at hl 0 rfl) ?_
    refine va_get (D := D) (ci := 5) (v := .ref (ad 16)) (C := RX6) (T := TX6) (N := 24) hx hb hw zinX6 hown hK hP 0 rfl rfl 18 (by decide) (hw _ zw114) (fun _ h9 => h9) rfl dX6_takeEdited_106 ?_
    refine lv_iload_n hx hb dX6_takeEdited_109 rfl (lv_at hl 2 rfl) ?_
    refine lv_iconst (v := 1) hx hb dX6_takeEdited_110 (by decide) ?_
    refine lv_iadd hx hb dX6_takeEdited_111 ?_
    obtain ⟨hi24, hm⟩ := zix_s hm
    refine va_iald (i := (x2 + 1)) (f := (u 16)) (n := 256) hx hb hK hP 16 15 rfl rfl hi24 dX6_takeEdited_112 ?_
    refine lv_bipush (v := 45) hx hb dX6_takeEdited_113 (by decide) ?_
    refine lv_icmp_ne (tgt := 123) hx hb dX6_takeEdited_115 rfl (fun cd25 => ?_) (fun cd25 => ?_)
    · replace hm := zf cd25 hm
      exact b_M_takeEdited_123 G0 hK hX rec hrec _ _ _ _ _ _ hm H _ _ hP hD hS hl
    · replace hm := zt cd25 hm
      exact b_M_takeEdited_118 G0 hK hX rec hrec _ _ _ _ _ _ hm H _ _ hP hD hS hl
set_option maxRecDepth 100000 in
set_option maxHeartbeats 4000000 in
theorem b_M_takeEdited_77 (G : zG p s m args meth c cX6_takeEdited RX6 6 none) (hK : va_K D vwCl (wM_t ca) s) (hX : zN (va_A w0 s.heap.size) s) {res : (Nat → Int32) × (Nat → Nat → Int32)} (rec : Int32 → Int32 → Int32 → (Nat → Int32) → (Nat → Nat → Int32) → Option ((Nat → Int32) × (Nat → Nat → Int32))) (hrec : ∀ (x1 : Int32) (x2 : Int32) (x3 : Int32) (v : Nat → Int32) (u : Nat → Nat → Int32), rec x1 x2 x3 v u = some res → zB p l e (zR 1 22) s m args below meth c D vwCl (va_A w0 s.heap.size) (MQ below (zQv D vwCl w0 (wM ad ca res.1 res.2) s.heap.size) args s 0 0 (va_A w0 s.heap.size)) 6 (wM ad ca v u) [(0, .ref (ad 0)), (1, .int x1), (2, .int x2), (3, .int x3)] 7 []) : ∀ (x1 : Int32) (x2 : Int32) (x3 : Int32) (x5 : Int32) (v : Nat → Int32) (u : Nat → Nat → Int32), m_M_takeEdited_77  rec x1 x2 x3 x5 v u = some res → zB p l e (zR 1 22) s m args below meth c D vwCl (va_A w0 s.heap.size) (MQ below (zQv D vwCl w0 (wM ad ca res.1 res.2) s.heap.size) args s 0 0 (va_A w0 s.heap.size)) 6 (wM ad ca v u) [(0, .ref (ad 0)), (1, .int x1), (2, .int x2), (3, .int x3), (5, .int x5)] 77 [] := by
  intro x1 x2 x3 x5 v u hm H locs ls hP hD hS hl
  unfold m_M_takeEdited_77 at hm
  have G0 := G
  obtain ⟨hx, hb, hr, hml, hown, hw, hlk⟩ := G
  have hA : ∀ q, s.heap.size ≤ q → va_A w0 s.heap.size q := fun q h => Or.inr h
  refine lv_iload hx hb dX6_takeEdited_77 (lv_at hl 4 rfl) ?_
  obtain ⟨q7, hq7, hm⟩ := zbind hm
  refine zb0i (va_runS (As := [.int x5]) (rest := []) ⟨hx, hb, hml, hown, hw⟩ (k_M_width l D  _ x5  q7 hq7) ⟨zcB 1 hw (zgood zw72) rfl rfl rfl zw7 zw74 hdX6_width ⟨Nat.le_of_ble_eq_true rfl, Nat.le_of_ble_eq_true rfl⟩, hw _ zw73⟩ (zpre zN_ok trivial hS (zfree0 hS hA) zP0 (hK.sub (tys' := []) [] rfl) zD0) rfl rfl hl.1 rfl (lv_room (Nat.le_of_ble_eq_true rfl)) dX6_takeEdited_79 ⟨Nat.zero_le _, Nat.zero_le _⟩) hP hD hS (zfree0 hS hA) (fun H locs hP hD hS => ?_)
  refine lv_if_le (tgt := 96) hx hb dX6_takeEdited_82 rfl (fun cd8 => ?_) (fun cd8 => ?_)
  · replace hm := zt cd8 hm
    exact b_M_takeEdited_96 G0 hK hX rec hrec _ _ _ _ _ _ hm H _ _ hP hD hS hl
  · replace hm := zf cd8 hm
    refine lv_aload_n hx hb dX6_takeEdited_85 rfl (lv_at hl 0 rfl) ?_
    refine va_get (D := D) (ci := 5) (v := .ref (ad 16)) (C := RX6) (T := TX6) (N := 24) hx hb hw zinX6 hown hK hP 0 rfl rfl 18 (by decide) (hw _ zw114) (fun _ h9 => h9) rfl dX6_takeEdited_86 ?_
    refine lv_iload_n hx hb dX6_takeEdited_89 rfl (lv_at hl 2 rfl) ?_
    obtain ⟨hi28, hm⟩ := zix_s hm
    refine va_iald (i := x2) (f := (u 16)) (n := 256) hx hb hK hP 16 15 rfl rfl hi28 dX6_takeEdited_90 ?_
    refine lv_bipush (v := 45) hx hb dX6_takeEdited_91 (by decide) ?_
    refine lv_icmp_eq (tgt := 118) hx hb dX6_takeEdited_93 rfl (fun cd29 => ?_) (fun cd29 => ?_)
    · replace hm := zt cd29 hm
      exact b_M_takeEdited_118 G0 hK hX rec hrec _ _ _ _ _ _ hm H _ _ hP hD hS hl
    · replace hm := zf cd29 hm
      exact b_M_takeEdited_96 G0 hK hX rec hrec _ _ _ _ _ _ hm H _ _ hP hD hS hl
set_option maxRecDepth 100000 in
set_option maxHeartbeats 4000000 in
theorem b_M_takeEdited_76 (G : zG p s m args meth c cX6_takeEdited RX6 6 none) (hK : va_K D vwCl (wM_t ca) s) (hX : zN (va_A w0 s.heap.size) s) {res : (Nat → Int32) × (Nat → Nat → Int32)} (rec : Int32 → Int32 → Int32 → (Nat → Int32) → (Nat → Nat → Int32) → Option ((Nat → Int32) × (Nat → Nat → Int32))) (hrec : ∀ (x1 : Int32) (x2 : Int32) (x3 : Int32) (v : Nat → Int32) (u : Nat → Nat → Int32), rec x1 x2 x3 v u = some res → zB p l e (zR 1 22) s m args below meth c D vwCl (va_A w0 s.heap.size) (MQ below (zQv D vwCl w0 (wM ad ca res.1 res.2) s.heap.size) args s 0 0 (va_A w0 s.heap.size)) 6 (wM ad ca v u) [(0, .ref (ad 0)), (1, .int x1), (2, .int x2), (3, .int x3)] 7 []) : ∀ (x1 : Int32) (x2 : Int32) (x3 : Int32) (x5 : Int32) (t0 : Int32) (t1 : Int32) (v : Nat → Int32) (u : Nat → Nat → Int32), m_M_takeEdited_76  rec x1 x2 x3 x5 t0 t1 v u = some res → zB p l e (zR 1 22) s m args below meth c D vwCl (va_A w0 s.heap.size) (MQ below (zQv D vwCl w0 (wM ad ca res.1 res.2) s.heap.size) args s 0 0 (va_A w0 s.heap.size)) 6 (wM ad ca v u) [(0, .ref (ad 0)), (1, .int x1), (2, .int x2), (3, .int x3), (5, .int x5)] 76 [.int t0, .int t1, .ref (ad 17)] := by
  intro x1 x2 x3 x5 t0 t1 v u hm H locs ls hP hD hS hl
  unfold m_M_takeEdited_76 at hm
  have G0 := G
  obtain ⟨hx, hb, hr, hml, hown, hw, hlk⟩ := G
  have hA : ∀ q, s.heap.size ≤ q → va_A w0 s.heap.size q := fun q h => Or.inr h
  obtain ⟨hi33, hm⟩ := zix_s hm
  refine va_iast (i := t1) (x := t0) (f := (u 17)) (n := 48) hx hb hK hP hD hS 17 16 rfl rfl hi33 dX6_takeEdited_76 (fun H locs hP hD hS => ?_)
  have hP : va_P D vwCl (wM ad ca v (zau u 17 t1 t0)) H := hP
  have hD : va_D _ (wM ad ca v (zau u 17 t1 t0)) := hD
  exact b_M_takeEdited_77 G0 hK hX rec hrec _ _ _ _ _ _ hm H _ _ hP hD hS hl
set_option maxRecDepth 100000 in
set_option maxHeartbeats 4000000 in
theorem b_M_takeEdited_7 (G : zG p s m args meth c cX6_takeEdited RX6 6 none) (hK : va_K D vwCl (wM_t ca) s) (hX : zN (va_A w0 s.heap.size) s) {res : (Nat → Int32) × (Nat → Nat → Int32)} : ∀ n : Nat, ∀ (x1 : Int32) (x2 : Int32) (x3 : Int32) (v : Nat → Int32) (u : Nat → Nat → Int32), m_M_takeEdited_7  n x1 x2 x3 v u = some res → zB p l e (zR 1 22) s m args below meth c D vwCl (va_A w0 s.heap.size) (MQ below (zQv D vwCl w0 (wM ad ca res.1 res.2) s.heap.size) args s 0 0 (va_A w0 s.heap.size)) 6 (wM ad ca v u) [(0, .ref (ad 0)), (1, .int x1), (2, .int x2), (3, .int x3)] 7 [] := by
  intro n
  induction n with
  | zero => intro x1 x2 x3 v u hm; cases hm
  | succ n ih =>
  have hrec := ih
  intro x1 x2 x3 v u hm H locs ls hP hD hS hl
  replace hm : m_M_takeEdited_7b  (m_M_takeEdited_7  n) x1 x2 x3 v u = some res := hm
  generalize m_M_takeEdited_7  n = rec at hm hrec
  unfold m_M_takeEdited_7b at hm
  clear ih
  have G0 := G
  obtain ⟨hx, hb, hr, hml, hown, hw, hlk⟩ := G
  have hA : ∀ q, s.heap.size ≤ q → va_A w0 s.heap.size q := fun q h => Or.inr h
  refine lv_iload_n hx hb dX6_takeEdited_7 rfl (lv_at hl 3 rfl) ?_
  refine lv_aload_n hx hb dX6_takeEdited_8 rfl (lv_at hl 0 rfl) ?_
  refine va_get (D := D) (ci := 5) (v := .ref (ad 2)) (C := RX6) (T := TX6) (N := 24) hx hb hw zinX6 hown hK hP 0 rfl rfl 4 (by decide) (hw _ zw5) (fun _ h9 => h9) rfl dX6_takeEdited_9 ?_
  refine lv_iload_n hx hb dX6_takeEdited_12 rfl (lv_at hl 1 rfl) ?_
  obtain ⟨hi1, hm⟩ := zix_s hm
  refine va_iald (i := x1) (f := (u 2)) (n := 9) hx hb hK hP 2 1 rfl rfl hi1 dX6_takeEdited_13 ?_
  refine lv_icmp_ge (tgt := 204) hx hb dX6_takeEdited_14 rfl (fun cd2 => ?_) (fun cd2 => ?_)
  · replace hm := zt cd2 hm
    refine lv_aload_n hx hb dX6_takeEdited_204 rfl (lv_at hl 0 rfl) ?_
    refine lv_aload_n hx hb dX6_takeEdited_205 rfl (lv_at hl 0 rfl) ?_
    refine va_get (D := D) (ci := 5) (v := .ref (ad 8)) (C := RX6) (T := TX6) (N := 24) hx hb hw zinX6 hown hK hP 0 rfl rfl 10 (by decide) (hw _ zw22) (fun _ h9 => h9) rfl dX6_takeEdited_206 ?_
    refine lv_iload_n hx hb dX6_takeEdited_209 rfl (lv_at hl 1 rfl) ?_
    obtain ⟨hi3, hm⟩ := zix_s hm
    refine va_iald (i := x1) (f := (u 8)) (n := 9) hx hb hK hP 8 7 rfl rfl hi3 dX6_takeEdited_210 ?_
    refine va_put (D := D) (ci := 5) (v := .int ((u 8) x1.toNatClampNeg)) (ty := .int) (C := RX6) (T := TX6) (N := 24) hx hb hw zinX6 tyX6 tyX6_ok nmX6 hown hK hP hD hS 0 rfl rfl 20 (by decide) (hw _ zw18) (fun _ h9 => h9) rfl (by decide +kernel) rfl rfl (Nat.le_of_ble_eq_true rfl) dX6_takeEdited_211 (fun H locs hP hD hS => ?_)
    have hP : va_P D vwCl (wM ad ca (upd v 20 ((u 8) x1.toNatClampNeg)) u) H := hP
    have hD : va_D _ (wM ad ca (upd v 20 ((u 8) x1.toNatClampNeg)) u) := hD
    cases hm
    exact zretv hx hb hr hlk hP hD hS dX6_takeEdited_214
  · replace hm := zf cd2 hm
    refine lv_aload_n hx hb dX6_takeEdited_17 rfl (lv_at hl 0 rfl) ?_
    refine va_get (D := D) (ci := 5) (v := .ref (ad 4)) (C := RX6) (T := TX6) (N := 24) hx hb hw zinX6 hown hK hP 0 rfl rfl 6 (by decide) (hw _ zw21) (fun _ h9 => h9) rfl dX6_takeEdited_18 ?_
    refine lv_bipush (v := 24) hx hb dX6_takeEdited_21 (by decide) ?_
    refine lv_iload_n hx hb dX6_takeEdited_23 rfl (lv_at hl 1 rfl) ?_
    refine lv_imul hx hb dX6_takeEdited_24 ?_
    refine lv_iload_n hx hb dX6_takeEdited_25 rfl (lv_at hl 3 rfl) ?_
    refine lv_iadd hx hb dX6_takeEdited_26 ?_
    obtain ⟨hi4, hm⟩ := zix_s hm
    refine va_iald (i := ((24 * x1) + x3)) (f := (u 4)) (n := 216) hx hb hK hP 4 3 rfl rfl hi4 dX6_takeEdited_27 ?_
    refine lv_istore (lv' := [(4, .int ((u 4) ((24 * x1) + x3).toNatClampNeg)), (0, .ref (ad 0)), (1, .int x1), (2, .int x2), (3, .int x3)]) hx hb dX6_takeEdited_28 hl (by decide) rfl (fun ls hl => ?_)
    refine lv_aload_n hx hb dX6_takeEdited_30 rfl (lv_at hl 1 rfl) ?_
    refine lv_iload_n hx hb dX6_takeEdited_31 rfl (lv_at hl 2 rfl) ?_
    refine lv_iload_n hx hb dX6_takeEdited_32 rfl (lv_at hl 4 rfl) ?_
    obtain ⟨q5, hq5, hm⟩ := zbind hm
    refine zbWi (va_runV (As := [.int x1, .int x3]) (rest := []) ⟨hx, hb, hml, hown, hw⟩ (k_M_sym l D ad ca _ x1 x3 v u  q5 hq5) (zcV (C := RX6) 2 hw (zgood zw14) rfl rfl rfl zw7 zw16 zw15 zw17 hdX6_sym ⟨Nat.le_of_ble_eq_true rfl, Nat.le_of_ble_eq_true rfl⟩) (zpreV (zpre zN_ok trivial hS (zfree hD hS hA) hP hK hD) (va_recv hK hP rfl (q0 := 0) rfl)) rfl rfl hl.1 rfl (lv_room (Nat.le_of_ble_eq_true rfl)) dX6_takeEdited_33 ⟨Nat.zero_le _, Nat.zero_le _⟩) hS (zfree hD hS hA) (fun H locs hP hD hS => ?_)
    refine lv_istore (lv' := [(5, .int q5), (4, .int ((u 4) ((24 * x1) + x3).toNatClampNeg)), (0, .ref (ad 0)), (1, .int x1), (2, .int x2), (3, .int x3)]) hx hb dX6_takeEdited_36 hl (by decide) rfl (fun ls hl => ?_)
    refine lv_iload hx hb dX6_takeEdited_38 (lv_at hl 1 rfl) ?_
    refine lv_if_le (tgt := 77) hx hb dX6_takeEdited_40 rfl (fun cd6 => ?_) (fun cd6 => ?_)
    · replace hm := zt cd6 hm
      exact b_M_takeEdited_77 G0 hK hX rec hrec _ _ _ _ _ _ hm H _ _ hP hD hS (lv_sub hl [2, 3, 4, 5, 0] rfl)
    · replace hm := zf cd6 hm
      refine lv_aload_n hx hb dX6_takeEdited_43 rfl (lv_at hl 2 rfl) ?_
      refine va_get (D := D) (ci := 5) (v := .ref (ad 17)) (C := RX6) (T := TX6) (N := 24) hx hb hw zinX6 hown hK hP 0 rfl rfl 19 (by decide) (hw _ zw20) (fun _ h9 => h9) rfl dX6_takeEdited_44 ?_
      refine lv_iload hx hb dX6_takeEdited_47 (lv_at hl 1 rfl) ?_
      refine lv_iconst (v := 1) hx hb dX6_takeEdited_49 (by decide) ?_
      refine lv_isub hx hb dX6_takeEdited_50 ?_
      refine lv_aload_n hx hb dX6_takeEdited_51 rfl (lv_at hl 2 rfl) ?_
      refine va_get (D := D) (ci := 5) (v := .ref (ad 16)) (C := RX6) (T := TX6) (N := 24) hx hb hw zinX6 hown hK hP 0 rfl rfl 18 (by decide) (hw _ zw114) (fun _ h9 => h9) rfl dX6_takeEdited_52 ?_
      refine lv_iload_n hx hb dX6_takeEdited_55 rfl (lv_at hl 4 rfl) ?_
      obtain ⟨hi30, hm⟩ := zix_s hm
      refine va_iald (i := x2) (f := (u 16)) (n := 256) hx hb hK hP 16 15 rfl rfl hi30 dX6_takeEdited_56 ?_
      obtain ⟨q31, hq31, hm⟩ := zbind hm
      refine zb0i (va_runS (As := [.int ((u 16) x2.toNatClampNeg)]) (rest := [.int (((u 4) ((24 * x1) + x3).toNatClampNeg) - 1), .ref (ad 17)]) ⟨hx, hb, hml, hown, hw⟩ (k_M_isDigit l D  _ ((u 16) x2.toNatClampNeg)  q31 hq31) ⟨zcB 1 hw (zgood zw11) rfl rfl rfl zw7 zw13 hdX6_isDigit ⟨Nat.le_of_ble_eq_true rfl, Nat.le_of_ble_eq_true rfl⟩, hw _ zw12⟩ (zpre zN_ok trivial hS (zfree0 hS hA) zP0 (hK.sub (tys' := []) [] rfl) zD0) rfl rfl hl.1 rfl (lv_room (Nat.le_of_ble_eq_true rfl)) dX6_takeEdited_57 ⟨Nat.zero_le _, Nat.zero_le _⟩) hP hD hS (zfree0 hS hA) (fun H locs hP hD hS => ?_)
      refine lv_if_eq (tgt := 75) hx hb dX6_takeEdited_60 rfl (fun cd32 => ?_) (fun cd32 => ?_)
      · replace hm := zt cd32 hm
        refine lv_iconst (v := 0) hx hb dX6_takeEdited_75 (by decide) ?_
        exact b_M_takeEdited_76 G0 hK hX rec hrec _ _ _ _ _ _ _ _ hm H _ _ hP hD hS (lv_sub hl [2, 3, 4, 5, 0] rfl)
      · replace hm := zf cd32 hm
        refine lv_aload_n hx hb dX6_takeEdited_63 rfl (lv_at hl 2 rfl) ?_
        refine va_get (D := D) (ci := 5) (v := .ref (ad 16)) (C := RX6) (T := TX6) (N := 24) hx hb hw zinX6 hown hK hP 0 rfl rfl 18 (by decide) (hw _ zw114) (fun _ h9 => h9) rfl dX6_takeEdited_64 ?_
        refine lv_iload_n hx hb dX6_takeEdited_67 rfl (lv_at hl 4 rfl) ?_
        obtain ⟨hi34, hm⟩ := zix_s hm
        refine va_iald (i := x2) (f := (u 16)) (n := 256) hx hb hK hP 16 15 rfl rfl hi34 dX6_takeEdited_68 ?_
        refine lv_bipush (v := 48) hx hb dX6_takeEdited_69 (by decide) ?_
        refine lv_isub hx hb dX6_takeEdited_71 ?_
        refine lv_goto (tgt := 76) hx hb dX6_takeEdited_72 rfl ?_
        exact b_M_takeEdited_76 G0 hK hX rec hrec _ _ _ _ _ _ _ _ hm H _ _ hP hD hS (lv_sub hl [2, 3, 4, 5, 0] rfl)
end
set_option maxRecDepth 100000 in
set_option maxHeartbeats 4000000 in
theorem k_M_takeEdited (l : Launch) (D : va_G) (ad : Nat → Nat) (ca : Nat → ClassId) (sz : Nat) (a0 : Int32) (v : Nat → Int32) (u : Nat → Nat → Int32) (res : (Nat → Int32) × (Nat → Nat → Int32)) (hm : m_M_takeEdited a0 v u  = some res) : Met l yX6_takeEdited (Cond.code yX6_takeEdited cX6_takeEdited 6 none :: zBIG) (zR 1 22) (va_Pc [.ref (ad 0), .int a0] (zP zN D vwCl (wM_t ca) (wM ad ca v u) sz)) (zQv D vwCl (wM ad ca v u) (wM ad ca res.1 res.2) sz) 0 0 (va_A (wM ad ca v u) sz) := by
  refine zEnter RX6 [.ref (ad 0), .int a0] (by decide) rfl (Nat.le_of_ble_eq_true rfl) (fun p e s m below meth c ls G hK hX hP hD hsz hl => ?_)
  subst hsz
  unfold m_M_takeEdited at hm
  have hl : lv_has ls 6 [(0, .ref (ad 0)), (1, .int a0)] := hl
  have hS : va_S (va_A (wM ad ca v u) s.heap.size) s.heap s.heap [] := va_S.rf
  have hA : ∀ q, s.heap.size ≤ q → va_A (wM ad ca v u) s.heap.size q := fun q h => Or.inr h
  have G0 := G
  obtain ⟨hx, hb, hr, hml, hown, hw, hlk⟩ := G
  refine lv_bipush (v := 32) hx hb dX6_takeEdited_0 (by decide) ?_
  refine lv_iload_n hx hb dX6_takeEdited_2 rfl (lv_at hl 1 rfl) ?_
  refine lv_imul hx hb dX6_takeEdited_3 ?_
  refine lv_istore_n (lv' := [(2, .int (32 * a0)), (0, .ref (ad 0)), (1, .int a0)]) hx hb dX6_takeEdited_4 rfl hl (by decide) rfl (fun ls hl => ?_)
  refine lv_iconst (v := 0) hx hb dX6_takeEdited_5 (by decide) ?_
  refine lv_istore_n (lv' := [(3, .int 0), (2, .int (32 * a0)), (0, .ref (ad 0)), (1, .int a0)]) hx hb dX6_takeEdited_6 rfl hl (by decide) rfl (fun ls hl => ?_)
  exact b_M_takeEdited_7 G0 hK hX 64 _ _ _ _ _ hm _ _ _ hP hD hS (lv_sub hl [2, 3, 1, 0] rfl)

theorem dX6_takeNumber_0 : decode cX6_takeNumber 0 = .ok (.aload_n 0, 1) := by decide +kernel
theorem dX6_takeNumber_1 : decode cX6_takeNumber 1 = .ok (.invokevirtual 145, 3) := by decide +kernel
theorem dX6_takeNumber_4 : decode cX6_takeNumber 4 = .ok (.aload_n 0, 1) := by decide +kernel
theorem dX6_takeNumber_5 : decode cX6_takeNumber 5 = .ok (.getfield 22, 3) := by decide +kernel
theorem dX6_takeNumber_8 : decode cX6_takeNumber 8 = .ok (.iload_n 1, 1) := by decide +kernel
theorem dX6_takeNumber_9 : decode cX6_takeNumber 9 = .ok (.iaload, 1) := by decide +kernel
theorem dX6_takeNumber_10 : decode cX6_takeNumber 10 = .ok (.iconst 1, 1) := by decide +kernel
theorem dX6_takeNumber_11 : decode cX6_takeNumber 11 = .ok (.if_icmp .ne 72, 3) := by decide +kernel
theorem dX6_takeNumber_14 : decode cX6_takeNumber 14 = .ok (.iconst 0, 1) := by decide +kernel
theorem dX6_takeNumber_15 : decode cX6_takeNumber 15 = .ok (.istore_n 2, 1) := by decide +kernel
theorem dX6_takeNumber_16 : decode cX6_takeNumber 16 = .ok (.iload_n 2, 1) := by decide +kernel
theorem dX6_takeNumber_17 : decode cX6_takeNumber 17 = .ok (.aload_n 0, 1) := by decide +kernel
theorem dX6_takeNumber_18 : decode cX6_takeNumber 18 = .ok (.getfield 53, 3) := by decide +kernel
theorem dX6_takeNumber_21 : decode cX6_takeNumber 21 = .ok (.iload_n 1, 1) := by decide +kernel
theorem dX6_takeNumber_22 : decode cX6_takeNumber 22 = .ok (.iaload, 1) := by decide +kernel
theorem dX6_takeNumber_23 : decode cX6_takeNumber 23 = .ok (.if_icmp .ge 57, 3) := by decide +kernel
theorem dX6_takeNumber_26 : decode cX6_takeNumber 26 = .ok (.iload_n 2, 1) := by decide +kernel
theorem dX6_takeNumber_27 : decode cX6_takeNumber 27 = .ok (.bipush 12, 2) := by decide +kernel
theorem dX6_takeNumber_29 : decode cX6_takeNumber 29 = .ok (.if_icmp .ge 51, 3) := by decide +kernel
theorem dX6_takeNumber_32 : decode cX6_takeNumber 32 = .ok (.aload_n 0, 1) := by decide +kernel
theorem dX6_takeNumber_33 : decode cX6_takeNumber 33 = .ok (.getfield 56, 3) := by decide +kernel
theorem dX6_takeNumber_36 : decode cX6_takeNumber 36 = .ok (.bipush 32, 2) := by decide +kernel
theorem dX6_takeNumber_38 : decode cX6_takeNumber 38 = .ok (.iload_n 1, 1) := by decide +kernel
theorem dX6_takeNumber_39 : decode cX6_takeNumber 39 = .ok (.imul, 1) := by decide +kernel
theorem dX6_takeNumber_40 : decode cX6_takeNumber 40 = .ok (.aload_n 0, 1) := by decide +kernel
theorem dX6_takeNumber_41 : decode cX6_takeNumber 41 = .ok (.getfield 53, 3) := by decide +kernel
theorem dX6_takeNumber_44 : decode cX6_takeNumber 44 = .ok (.iload_n 1, 1) := by decide +kernel
theorem dX6_takeNumber_45 : decode cX6_takeNumber 45 = .ok (.iaload, 1) := by decide +kernel
theorem dX6_takeNumber_46 : decode cX6_takeNumber 46 = .ok (.iadd, 1) := by decide +kernel
theorem dX6_takeNumber_47 : decode cX6_takeNumber 47 = .ok (.iconst 1, 1) := by decide +kernel
theorem dX6_takeNumber_48 : decode cX6_takeNumber 48 = .ok (.isub, 1) := by decide +kernel
theorem dX6_takeNumber_49 : decode cX6_takeNumber 49 = .ok (.iload_n 2, 1) := by decide +kernel
theorem dX6_takeNumber_50 : decode cX6_takeNumber 50 = .ok (.isub, 1) := by decide +kernel
theorem dX6_takeNumber_51 : decode cX6_takeNumber 51 = .ok (.iaload, 1) := by decide +kernel
theorem dX6_takeNumber_52 : decode cX6_takeNumber 52 = .ok (.istore_n 3, 1) := by decide +kernel
theorem dX6_takeNumber_53 : decode cX6_takeNumber 53 = .ok (.aload_n 0, 1) := by decide +kernel
theorem dX6_takeNumber_54 : decode cX6_takeNumber 54 = .ok (.getfield 59, 3) := by decide +kernel
theorem dX6_takeNumber_57 : decode cX6_takeNumber 57 = .ok (.iload_n 2, 1) := by decide +kernel
theorem dX6_takeNumber_58 : decode cX6_takeNumber 58 = .ok (.iload_n 3, 1) := by decide +kernel
theorem dX6_takeNumber_59 : decode cX6_takeNumber 59 = .ok (.invokestatic 79, 3) := by decide +kernel
theorem dX6_takeNumber_62 : decode cX6_takeNumber 62 = .ok (.ifCond .eq 10, 3) := by decide +kernel
theorem dX6_takeNumber_65 : decode cX6_takeNumber 65 = .ok (.iload_n 3, 1) := by decide +kernel
theorem dX6_takeNumber_66 : decode cX6_takeNumber 66 = .ok (.bipush 48, 2) := by decide +kernel
theorem dX6_takeNumber_68 : decode cX6_takeNumber 68 = .ok (.isub, 1) := by decide +kernel
theorem dX6_takeNumber_69 : decode cX6_takeNumber 69 = .ok (.goto 4, 3) := by decide +kernel
theorem dX6_takeNumber_72 : decode cX6_takeNumber 72 = .ok (.iconst 0, 1) := by decide +kernel
theorem dX6_takeNumber_73 : decode cX6_takeNumber 73 = .ok (.iastore, 1) := by decide +kernel
theorem dX6_takeNumber_74 : decode cX6_takeNumber 74 = .ok (.iinc 2 1, 3) := by decide +kernel
theorem dX6_takeNumber_77 : decode cX6_takeNumber 77 = .ok (.goto (-61), 3) := by decide +kernel
theorem dX6_takeNumber_80 : decode cX6_takeNumber 80 = .ok (.goto 26, 3) := by decide +kernel
theorem dX6_takeNumber_83 : decode cX6_takeNumber 83 = .ok (.aload_n 0, 1) := by decide +kernel
theorem dX6_takeNumber_84 : decode cX6_takeNumber 84 = .ok (.getfield 22, 3) := by decide +kernel
theorem dX6_takeNumber_87 : decode cX6_takeNumber 87 = .ok (.iload_n 1, 1) := by decide +kernel
theorem dX6_takeNumber_88 : decode cX6_takeNumber 88 = .ok (.iaload, 1) := by decide +kernel
theorem dX6_takeNumber_89 : decode cX6_takeNumber 89 = .ok (.iconst 2, 1) := by decide +kernel
theorem dX6_takeNumber_90 : decode cX6_takeNumber 90 = .ok (.if_icmp .ne 11, 3) := by decide +kernel
theorem dX6_takeNumber_93 : decode cX6_takeNumber 93 = .ok (.aload_n 0, 1) := by decide +kernel
theorem dX6_takeNumber_94 : decode cX6_takeNumber 94 = .ok (.iload_n 1, 1) := by decide +kernel
theorem dX6_takeNumber_95 : decode cX6_takeNumber 95 = .ok (.invokevirtual 194, 3) := by decide +kernel
theorem dX6_takeNumber_98 : decode cX6_takeNumber 98 = .ok (.goto 8, 3) := by decide +kernel
theorem dX6_takeNumber_101 : decode cX6_takeNumber 101 = .ok (.aload_n 0, 1) := by decide +kernel
theorem dX6_takeNumber_102 : decode cX6_takeNumber 102 = .ok (.iload_n 1, 1) := by decide +kernel
theorem dX6_takeNumber_103 : decode cX6_takeNumber 103 = .ok (.invokevirtual 197, 3) := by decide +kernel
theorem dX6_takeNumber_106 : decode cX6_takeNumber 106 = .ok (.return_, 1) := by decide +kernel
def m_M_takeNumber_80   (v : Nat → Int32) (u : Nat → Nat → Int32) : Option ((Nat → Int32) × (Nat → Nat → Int32)) := (some (v, u))
def m_M_takeNumber_73  (rec : Int32 → Int32 → (Nat → Int32) → (Nat → Nat → Int32) → Option ((Nat → Int32) × (Nat → Nat → Int32))) (x1 : Int32) (x2 : Int32) (t0 : Int32) (t1 : Int32) (v : Nat → Int32) (u : Nat → Nat → Int32) : Option ((Nat → Int32) × (Nat → Nat → Int32)) := zix t1 48 (rec x1 (x2 + 1) v (zau u 17 t1 t0))
def m_M_takeNumber_16b  (rec : Int32 → Int32 → (Nat → Int32) → (Nat → Nat → Int32) → Option ((Nat → Int32) × (Nat → Nat → Int32))) (x1 : Int32) (x2 : Int32) (v : Nat → Int32) (u : Nat → Nat → Int32) : Option ((Nat → Int32) × (Nat → Nat → Int32)) := zix x1 9 ((if ((u 15) x1.toNatClampNeg) ≤ x2 then m_M_takeNumber_80  v u else (if 12 ≤ x2 then m_M_takeNumber_80  v u else zix x1 9 (zix ((((32 * x1) + ((u 15) x1.toNatClampNeg)) - 1) - x2) 256 ((m_M_isDigit ((u 16) ((((32 * x1) + ((u 15) x1.toNatClampNeg)) - 1) - x2).toNatClampNeg)).bind (fun q13 => (if q13 = 0 then m_M_takeNumber_73  rec x1 x2 0 x2 v u else m_M_takeNumber_73  rec x1 x2 (((u 16) ((((32 * x1) + ((u 15) x1.toNatClampNeg)) - 1) - x2).toNatClampNeg) - 48) x2 v u)))))))
def m_M_takeNumber_16  : Nat → Int32 → Int32 → (Nat → Int32) → (Nat → Nat → Int32) → Option ((Nat → Int32) × (Nat → Nat → Int32))
  | 0 => fun _ _ _ _ => none
  | n + 1 => fun x1 x2 v u => m_M_takeNumber_16b  (m_M_takeNumber_16  n) x1 x2 v u
def m_M_takeNumber (a0 : Int32) (v : Nat → Int32) (u : Nat → Nat → Int32)  : Option ((Nat → Int32) × (Nat → Nat → Int32)) := (m_M_nothing v u).bind (fun q1 => zix a0 9 ((if ((q1.2 5) a0.toNatClampNeg) = 1 then m_M_takeNumber_16  64 a0 0 q1.1 q1.2 else zix a0 9 ((if ((q1.2 5) a0.toNatClampNeg) = 2 then (m_M_takeEdited a0 q1.1 q1.2).bind (fun q7 => (some (q7.1, q7.2))) else (m_M_takeDigits a0 q1.1 q1.2).bind (fun q6 => (some (q6.1, q6.2))))))))
section
variable {p : Program} {l : Launch} {e : Env} {s : State} {m : MethodId} {args : Array Value} {below : List Frame} {meth : Method} {c : Code} {D : va_G} {w0 : va_W} {ad : Nat → Nat} {ca : Nat → ClassId}
set_option maxRecDepth 100000 in
set_option maxHeartbeats 4000000 in
theorem b_M_takeNumber_80 (G : zG p s m args meth c cX6_takeNumber RX6 4 none) (hK : va_K D vwCl (wM_t ca) s) (hX : zN (va_A w0 s.heap.size) s) {res : (Nat → Int32) × (Nat → Nat → Int32)} : ∀ (v : Nat → Int32) (u : Nat → Nat → Int32), m_M_takeNumber_80  v u = some res → zB p l e (zR 2 49) s m args below meth c D vwCl (va_A w0 s.heap.size) (MQ below (zQv D vwCl w0 (wM ad ca res.1 res.2) s.heap.size) args s 0 0 (va_A w0 s.heap.size)) 4 (wM ad ca v u) [] 80 [] := by
  intro v u hm H locs ls hP hD hS hl
  unfold m_M_takeNumber_80 at hm
  have G0 := G
  obtain ⟨hx, hb, hr, hml, hown, hw, hlk⟩ := G
  have hA : ∀ q, s.heap.size ≤ q → va_A w0 s.heap.size q := fun q h => Or.inr h
  refine lv_goto (tgt := 106) hx hb dX6_takeNumber_80 rfl ?_
  cases hm
  exact zretv hx hb hr hlk hP hD hS dX6_takeNumber_106
set_option maxRecDepth 100000 in
set_option maxHeartbeats 4000000 in
theorem b_M_takeNumber_73 (G : zG p s m args meth c cX6_takeNumber RX6 4 none) (hK : va_K D vwCl (wM_t ca) s) (hX : zN (va_A w0 s.heap.size) s) {res : (Nat → Int32) × (Nat → Nat → Int32)} (rec : Int32 → Int32 → (Nat → Int32) → (Nat → Nat → Int32) → Option ((Nat → Int32) × (Nat → Nat → Int32))) (hrec : ∀ (x1 : Int32) (x2 : Int32) (v : Nat → Int32) (u : Nat → Nat → Int32), rec x1 x2 v u = some res → zB p l e (zR 2 49) s m args below meth c D vwCl (va_A w0 s.heap.size) (MQ below (zQv D vwCl w0 (wM ad ca res.1 res.2) s.heap.size) args s 0 0 (va_A w0 s.heap.size)) 4 (wM ad ca v u) [(0, .ref (ad 0)), (1, .int x1), (2, .int x2)] 16 []) : ∀ (x1 : Int32) (x2 : Int32) (t0 : Int32) (t1 : Int32) (v : Nat → Int32) (u : Nat → Nat → Int32), m_M_takeNumber_73  rec x1 x2 t0 t1 v u = some res → zB p l e (zR 2 49) s m args below meth c D vwCl (va_A w0 s.heap.size) (MQ below (zQv D vwCl w0 (wM ad ca res.1 res.2) s.heap.size) args s 0 0 (va_A w0 s.heap.size)) 4 (wM ad ca v u) [(0, .ref (ad 0)), (1, .int x1), (2, .int x2)] 73 [.int t0, .int t1, .ref (ad 17)] := by
  intro x1 x2 t0 t1 v u hm H locs ls hP hD hS hl
  unfold m_M_takeNumber_73 at hm
  have G0 := G
  obtain ⟨hx, hb, hr, hml, hown, hw, hlk⟩ := G
  have hA : ∀ q, s.heap.size ≤ q → va_A w0 s.heap.size q := fun q h => Or.inr h
  obtain ⟨hi15, hm⟩ := zix_s hm
  refine va_iast (i := t1) (x := t0) (f := (u 17)) (n := 48) hx hb hK hP hD hS 17 16 rfl rfl hi15 dX6_takeNumber_73 (fun H locs hP hD hS => ?_)
  have hP : va_P D vwCl (wM ad ca v (zau u 17 t1 t0)) H := hP
  have hD : va_D _ (wM ad ca v (zau u 17 t1 t0)) := hD
  refine lv_iinc (k := 2) (v := (x2 + 1)) (lv' := [(2, .int (x2 + 1)), (0, .ref (ad 0)), (1, .int x1)]) hx hb dX6_takeNumber_74 hl rfl rfl (by decide) rfl (fun ls hl => ?_)
  refine lv_goto (tgt := 16) hx hb dX6_takeNumber_77 rfl ?_
  exact hrec _ _ _ _ hm H _ _ hP hD hS (lv_sub hl [1, 2, 0] rfl)
set_option maxRecDepth 100000 in
set_option maxHeartbeats 4000000 in
theorem b_M_takeNumber_16 (G : zG p s m args meth c cX6_takeNumber RX6 4 none) (hK : va_K D vwCl (wM_t ca) s) (hX : zN (va_A w0 s.heap.size) s) {res : (Nat → Int32) × (Nat → Nat → Int32)} : ∀ n : Nat, ∀ (x1 : Int32) (x2 : Int32) (v : Nat → Int32) (u : Nat → Nat → Int32), m_M_takeNumber_16  n x1 x2 v u = some res → zB p l e (zR 2 49) s m args below meth c D vwCl (va_A w0 s.heap.size) (MQ below (zQv D vwCl w0 (wM ad ca res.1 res.2) s.heap.size) args s 0 0 (va_A w0 s.heap.size)) 4 (wM ad ca v u) [(0, .ref (ad 0)), (1, .int x1), (2, .int x2)] 16 [] := by
  intro n
  induction n with
  | zero => intro x1 x2 v u hm; cases hm
  | succ n ih =>
  have hrec := ih
  intro x1 x2 v u hm H locs ls hP hD hS hl
  replace hm : m_M_takeNumber_16b  (m_M_takeNumber_16  n) x1 x2 v u = some res := hm
  generalize m_M_takeNumber_16  n = rec at hm hrec
  unfold m_M_takeNumber_16b at hm
  clear ih
  have G0 := G
  obtain ⟨hx, hb, hr, hml, hown, hw, hlk⟩ := G
  have hA : ∀ q, s.heap.size ≤ q → va_A w0 s.heap.size q := fun q h => Or.inr h
  refine lv_iload_n hx hb dX6_takeNumber_16 rfl (lv_at hl 2 rfl) ?_
  refine lv_aload_n hx hb dX6_takeNumber_17 rfl (lv_at hl 0 rfl) ?_
  refine va_get (D := D) (ci := 5) (v := .ref (ad 15)) (C := RX6) (T := TX6) (N := 24) hx hb hw zinX6 hown hK hP 0 rfl rfl 17 (by decide) (hw _ zw50) (fun _ h9 => h9) rfl dX6_takeNumber_18 ?_
  refine lv_iload_n hx hb dX6_takeNumber_21 rfl (lv_at hl 1 rfl) ?_
  obtain ⟨hi8, hm⟩ := zix_s hm
  refine va_iald (i := x1) (f := (u 15)) (n := 9) hx hb hK hP 15 14 rfl rfl hi8 dX6_takeNumber_22 ?_
  refine lv_icmp_ge (tgt := 80) hx hb dX6_takeNumber_23 rfl (fun cd9 => ?_) (fun cd9 => ?_)
  · replace hm := zt cd9 hm
    exact b_M_takeNumber_80 G0 hK hX _ _ hm H _ _ hP hD hS (lv_sub hl [] rfl)
  · replace hm := zf cd9 hm
    refine lv_iload_n hx hb dX6_takeNumber_26 rfl (lv_at hl 2 rfl) ?_
    refine lv_bipush (v := 12) hx hb dX6_takeNumber_27 (by decide) ?_
    refine lv_icmp_ge (tgt := 80) hx hb dX6_takeNumber_29 rfl (fun cd10 => ?_) (fun cd10 => ?_)
    · replace hm := zt cd10 hm
      exact b_M_takeNumber_80 G0 hK hX _ _ hm H _ _ hP hD hS (lv_sub hl [] rfl)
    · replace hm := zf cd10 hm
      refine lv_aload_n hx hb dX6_takeNumber_32 rfl (lv_at hl 0 rfl) ?_
      refine va_get (D := D) (ci := 5) (v := .ref (ad 16)) (C := RX6) (T := TX6) (N := 24) hx hb hw zinX6 hown hK hP 0 rfl rfl 18 (by decide) (hw _ zw114) (fun _ h9 => h9) rfl dX6_takeNumber_33 ?_
      refine lv_bipush (v := 32) hx hb dX6_takeNumber_36 (by decide) ?_
      refine lv_iload_n hx hb dX6_takeNumber_38 rfl (lv_at hl 1 rfl) ?_
      refine lv_imul hx hb dX6_takeNumber_39 ?_
      refine lv_aload_n hx hb dX6_takeNumber_40 rfl (lv_at hl 0 rfl) ?_
      refine va_get (D := D) (ci := 5) (v := .ref (ad 15)) (C := RX6) (T := TX6) (N := 24) hx hb hw zinX6 hown hK hP 0 rfl rfl 17 (by decide) (hw _ zw50) (fun _ h9 => h9) rfl dX6_takeNumber_41 ?_
      refine lv_iload_n hx hb dX6_takeNumber_44 rfl (lv_at hl 1 rfl) ?_
      obtain ⟨hi11, hm⟩ := zix_s hm
      refine va_iald (i := x1) (f := (u 15)) (n := 9) hx hb hK hP 15 14 rfl rfl hi11 dX6_takeNumber_45 ?_
      refine lv_iadd hx hb dX6_takeNumber_46 ?_
      refine lv_iconst (v := 1) hx hb dX6_takeNumber_47 (by decide) ?_
      refine lv_isub hx hb dX6_takeNumber_48 ?_
      refine lv_iload_n hx hb dX6_takeNumber_49 rfl (lv_at hl 2 rfl) ?_
      refine lv_isub hx hb dX6_takeNumber_50 ?_
      obtain ⟨hi12, hm⟩ := zix_s hm
      refine va_iald (i := ((((32 * x1) + ((u 15) x1.toNatClampNeg)) - 1) - x2)) (f := (u 16)) (n := 256) hx hb hK hP 16 15 rfl rfl hi12 dX6_takeNumber_51 ?_
      refine lv_istore_n (lv' := [(3, .int ((u 16) ((((32 * x1) + ((u 15) x1.toNatClampNeg)) - 1) - x2).toNatClampNeg)), (0, .ref (ad 0)), (1, .int x1), (2, .int x2)]) hx hb dX6_takeNumber_52 rfl hl (by decide) rfl (fun ls hl => ?_)
      refine lv_aload_n hx hb dX6_takeNumber_53 rfl (lv_at hl 1 rfl) ?_
      refine va_get (D := D) (ci := 5) (v := .ref (ad 17)) (C := RX6) (T := TX6) (N := 24) hx hb hw zinX6 hown hK hP 0 rfl rfl 19 (by decide) (hw _ zw20) (fun _ h9 => h9) rfl dX6_takeNumber_54 ?_
      refine lv_iload_n hx hb dX6_takeNumber_57 rfl (lv_at hl 3 rfl) ?_
      refine lv_iload_n hx hb dX6_takeNumber_58 rfl (lv_at hl 0 rfl) ?_
      obtain ⟨q13, hq13, hm⟩ := zbind hm
      refine zb0i (va_runS (As := [.int ((u 16) ((((32 * x1) + ((u 15) x1.toNatClampNeg)) - 1) - x2).toNatClampNeg)]) (rest := [.int x2, .ref (ad 17)]) ⟨hx, hb, hml, hown, hw⟩ (k_M_isDigit l D  _ ((u 16) ((((32 * x1) + ((u 15) x1.toNatClampNeg)) - 1) - x2).toNatClampNeg)  q13 hq13) ⟨zcB 1 hw (zgood zw11) rfl rfl rfl zw7 zw13 hdX6_isDigit ⟨Nat.le_of_ble_eq_true rfl, Nat.le_of_ble_eq_true rfl⟩, hw _ zw12⟩ (zpre zN_ok trivial hS (zfree0 hS hA) zP0 (hK.sub (tys' := []) [] rfl) zD0) rfl rfl hl.1 rfl (lv_room (Nat.le_of_ble_eq_true rfl)) dX6_takeNumber_59 ⟨Nat.zero_le _, Nat.zero_le _⟩) hP hD hS (zfree0 hS hA) (fun H locs hP hD hS => ?_)
      refine lv_if_eq (tgt := 72) hx hb dX6_takeNumber_62 rfl (fun cd14 => ?_) (fun cd14 => ?_)
      · replace hm := zt cd14 hm
        refine lv_iconst (v := 0) hx hb dX6_takeNumber_72 (by decide) ?_
        exact b_M_takeNumber_73 G0 hK hX rec hrec _ _ _ _ _ _ hm H _ _ hP hD hS (lv_sub hl [1, 2, 3] rfl)
      · replace hm := zf cd14 hm
        refine lv_iload_n hx hb dX6_takeNumber_65 rfl (lv_at hl 0 rfl) ?_
        refine lv_bipush (v := 48) hx hb dX6_takeNumber_66 (by decide) ?_
        refine lv_isub hx hb dX6_takeNumber_68 ?_
        refine lv_goto (tgt := 73) hx hb dX6_takeNumber_69 rfl ?_
        exact b_M_takeNumber_73 G0 hK hX rec hrec _ _ _ _ _ _ hm H _ _ hP hD hS (lv_sub hl [1, 2, 3] rfl)
end
set_option maxRecDepth 100000 in
set_option maxHeartbeats 4000000 in
theorem k_M_takeNumber (l : Launch) (D : va_G) (ad : Nat → Nat) (ca : Nat → ClassId) (sz : Nat) (a0 : Int32) (v : Nat → Int32) (u : Nat → Nat → Int32) (res : (Nat → Int32) × (Nat → Nat → Int32)) (hm : m_M_takeNumber a0 v u  = some res) : Met l yX6_takeNumber (Cond.code yX6_takeNumber cX6_takeNumber 4 none :: zBIG) (zR 2 49) (va_Pc [.ref (ad 0), .int a0] (zP zN D vwCl (wM_t ca) (wM ad ca v u) sz)) (zQv D vwCl (wM ad ca v u) (wM ad ca res.1 res.2) sz) 0 0 (va_A (wM ad ca v u) sz) := by
  refine zEnter RX6 [.ref (ad 0), .int a0] (by decide) rfl (Nat.le_of_ble_eq_true rfl) (fun p e s m below meth c ls G hK hX hP hD hsz hl => ?_)
  subst hsz
  unfold m_M_takeNumber at hm
  have hl : lv_has ls 4 [(0, .ref (ad 0)), (1, .int a0)] := hl
  have hS : va_S (va_A (wM ad ca v u) s.heap.size) s.heap s.heap [] := va_S.rf
  have hA : ∀ q, s.heap.size ≤ q → va_A (wM ad ca v u) s.heap.size q := fun q h => Or.inr h
  have G0 := G
  obtain ⟨hx, hb, hr, hml, hown, hw, hlk⟩ := G
  refine lv_aload_n hx hb dX6_takeNumber_0 rfl (lv_at hl 0 rfl) ?_
  obtain ⟨q1, hq1, hm⟩ := zbind hm
  refine zbWv (va_runV (As := []) (rest := []) ⟨hx, hb, hml, hown, hw⟩ (k_M_nothing l D ad ca _ v u  q1 hq1) (zcV (C := RX6) 0 hw (zgood zw130) rfl rfl rfl zw7 zw132 zw131 zw133 hdX6_nothing ⟨Nat.le_of_ble_eq_true rfl, Nat.le_of_ble_eq_true rfl⟩) (zpreV (zpre zN_ok trivial hS (zfree hD hS hA) hP hK hD) (va_recv hK hP rfl (q0 := 0) rfl)) rfl rfl hl.1 rfl (lv_room (Nat.le_of_ble_eq_true rfl)) dX6_takeNumber_1 ⟨Nat.zero_le _, Nat.zero_le _⟩) hS (zfree hD hS hA) (fun H locs hP hD hS => ?_)
  have hP : va_P D vwCl (wM ad ca q1.1 q1.2) H := hP
  have hD : va_D _ (wM ad ca q1.1 q1.2) := hD
  refine lv_aload_n hx hb dX6_takeNumber_4 rfl (lv_at hl 0 rfl) ?_
  refine va_get (D := D) (ci := 5) (v := .ref (ad 5)) (C := RX6) (T := TX6) (N := 24) hx hb hw zinX6 hown hK hP 0 rfl rfl 7 (by decide) (hw _ zw46) (fun _ h9 => h9) rfl dX6_takeNumber_5 ?_
  refine lv_iload_n hx hb dX6_takeNumber_8 rfl (lv_at hl 1 rfl) ?_
  obtain ⟨hi2, hm⟩ := zix_s hm
  refine va_iald (i := a0) (f := (q1.2 5)) (n := 9) hx hb hK hP 5 4 rfl rfl hi2 dX6_takeNumber_9 ?_
  refine lv_iconst (v := 1) hx hb dX6_takeNumber_10 (by decide) ?_
  refine lv_icmp_ne (tgt := 83) hx hb dX6_takeNumber_11 rfl (fun cd3 => ?_) (fun cd3 => ?_)
  · replace hm := zf cd3 hm
    refine lv_aload_n hx hb dX6_takeNumber_83 rfl (lv_at hl 0 rfl) ?_
    refine va_get (D := D) (ci := 5) (v := .ref (ad 5)) (C := RX6) (T := TX6) (N := 24) hx hb hw zinX6 hown hK hP 0 rfl rfl 7 (by decide) (hw _ zw46) (fun _ h9 => h9) rfl dX6_takeNumber_84 ?_
    refine lv_iload_n hx hb dX6_takeNumber_87 rfl (lv_at hl 1 rfl) ?_
    obtain ⟨hi4, hm⟩ := zix_s hm
    refine va_iald (i := a0) (f := (q1.2 5)) (n := 9) hx hb hK hP 5 4 rfl rfl hi4 dX6_takeNumber_88 ?_
    refine lv_iconst (v := 2) hx hb dX6_takeNumber_89 (by decide) ?_
    refine lv_icmp_ne (tgt := 101) hx hb dX6_takeNumber_90 rfl (fun cd5 => ?_) (fun cd5 => ?_)
    · replace hm := zf cd5 hm
      refine lv_aload_n hx hb dX6_takeNumber_101 rfl (lv_at hl 0 rfl) ?_
      refine lv_iload_n hx hb dX6_takeNumber_102 rfl (lv_at hl 1 rfl) ?_
      obtain ⟨q6, hq6, hm⟩ := zbind hm
      refine zbWv (va_runV (As := [.int a0]) (rest := []) ⟨hx, hb, hml, hown, hw⟩ (k_M_takeDigits l D ad ca _ a0 q1.1 q1.2  q6 hq6) (zcV (C := RX6) 1 hw (zgood zw150) rfl rfl rfl zw7 zw152 zw151 zw153 hdX6_takeDigits ⟨Nat.le_of_ble_eq_true rfl, Nat.le_of_ble_eq_true rfl⟩) (zpreV (zpre zN_ok trivial hS (zfree hD hS hA) hP hK hD) (va_recv hK hP rfl (q0 := 0) rfl)) rfl rfl hl.1 rfl (lv_room (Nat.le_of_ble_eq_true rfl)) dX6_takeNumber_103 ⟨Nat.zero_le _, Nat.zero_le _⟩) hS (zfree hD hS hA) (fun H locs hP hD hS => ?_)
      have hP : va_P D vwCl (wM ad ca q6.1 q6.2) H := hP
      have hD : va_D _ (wM ad ca q6.1 q6.2) := hD
      cases hm
      exact zretv hx hb hr hlk hP hD hS dX6_takeNumber_106
    · replace hm := zt cd5 hm
      refine lv_aload_n hx hb dX6_takeNumber_93 rfl (lv_at hl 0 rfl) ?_
      refine lv_iload_n hx hb dX6_takeNumber_94 rfl (lv_at hl 1 rfl) ?_
      obtain ⟨q7, hq7, hm⟩ := zbind hm
      refine zbWv (va_runV (As := [.int a0]) (rest := []) ⟨hx, hb, hml, hown, hw⟩ (k_M_takeEdited l D ad ca _ a0 q1.1 q1.2  q7 hq7) (zcV (C := RX6) 1 hw (zgood zw154) rfl rfl rfl zw7 zw156 zw155 zw157 hdX6_takeEdited ⟨Nat.le_of_ble_eq_true rfl, Nat.le_of_ble_eq_true rfl⟩) (zpreV (zpre zN_ok trivial hS (zfree hD hS hA) hP hK hD) (va_recv hK hP rfl (q0 := 0) rfl)) rfl rfl hl.1 rfl (lv_room (Nat.le_of_ble_eq_true rfl)) dX6_takeNumber_95 ⟨Nat.zero_le _, Nat.zero_le _⟩) hS (zfree hD hS hA) (fun H locs hP hD hS => ?_)
      have hP : va_P D vwCl (wM ad ca q7.1 q7.2) H := hP
      have hD : va_D _ (wM ad ca q7.1 q7.2) := hD
      refine lv_goto (tgt := 106) hx hb dX6_takeNumber_98 rfl ?_
      cases hm
      exact zretv hx hb hr hlk hP hD hS dX6_takeNumber_106
  · replace hm := zt cd3 hm
    refine lv_iconst (v := 0) hx hb dX6_takeNumber_14 (by decide) ?_
    refine lv_istore_n (lv' := [(2, .int 0), (0, .ref (ad 0)), (1, .int a0)]) hx hb dX6_takeNumber_15 rfl hl (by decide) rfl (fun ls hl => ?_)
    exact b_M_takeNumber_16 G0 hK hX 64 _ _ _ _ hm _ _ _ hP hD hS (lv_sub hl [1, 2, 0] rfl)

theorem dX6_put2_0 : decode cX6_put2 0 = .ok (.aload_n 0, 1) := by decide +kernel
theorem dX6_put2_1 : decode cX6_put2 1 = .ok (.iload_n 1, 1) := by decide +kernel
theorem dX6_put2_2 : decode cX6_put2 2 = .ok (.invokevirtual 155, 3) := by decide +kernel
theorem dX6_put2_5 : decode cX6_put2 5 = .ok (.ifCond .ne 7, 3) := by decide +kernel
theorem dX6_put2_8 : decode cX6_put2 8 = .ok (.iconst 1, 1) := by decide +kernel
theorem dX6_put2_9 : decode cX6_put2 9 = .ok (.goto 4, 3) := by decide +kernel
theorem dX6_put2_12 : decode cX6_put2 12 = .ok (.iconst 0, 1) := by decide +kernel
theorem dX6_put2_13 : decode cX6_put2 13 = .ok (.istore 5, 2) := by decide +kernel
theorem dX6_put2_15 : decode cX6_put2 15 = .ok (.aload_n 0, 1) := by decide +kernel
theorem dX6_put2_16 : decode cX6_put2 16 = .ok (.iload 5, 2) := by decide +kernel
theorem dX6_put2_18 : decode cX6_put2 18 = .ok (.iload 4, 2) := by decide +kernel
theorem dX6_put2_20 : decode cX6_put2 20 = .ok (.ifCond .lt 10, 3) := by decide +kernel
theorem dX6_put2_23 : decode cX6_put2 23 = .ok (.iload 4, 2) := by decide +kernel
theorem dX6_put2_25 : decode cX6_put2 25 = .ok (.bipush 6, 2) := by decide +kernel
theorem dX6_put2_27 : decode cX6_put2 27 = .ok (.if_icmp .le 7, 3) := by decide +kernel
theorem dX6_put2_30 : decode cX6_put2 30 = .ok (.iconst 1, 1) := by decide +kernel
theorem dX6_put2_31 : decode cX6_put2 31 = .ok (.goto 4, 3) := by decide +kernel
theorem dX6_put2_34 : decode cX6_put2 34 = .ok (.iconst 0, 1) := by decide +kernel
theorem dX6_put2_35 : decode cX6_put2 35 = .ok (.iload 5, 2) := by decide +kernel
theorem dX6_put2_37 : decode cX6_put2 37 = .ok (.ifCond .ne 17, 3) := by decide +kernel
theorem dX6_put2_40 : decode cX6_put2 40 = .ok (.aload_n 0, 1) := by decide +kernel
theorem dX6_put2_41 : decode cX6_put2 41 = .ok (.getfield 22, 3) := by decide +kernel
theorem dX6_put2_44 : decode cX6_put2 44 = .ok (.iload_n 1, 1) := by decide +kernel
theorem dX6_put2_45 : decode cX6_put2 45 = .ok (.iaload, 1) := by decide +kernel
theorem dX6_put2_46 : decode cX6_put2 46 = .ok (.iconst 1, 1) := by decide +kernel
theorem dX6_put2_47 : decode cX6_put2 47 = .ok (.if_icmp .ne 7, 3) := by decide +kernel
theorem dX6_put2_50 : decode cX6_put2 50 = .ok (.iconst 1, 1) := by decide +kernel
theorem dX6_put2_51 : decode cX6_put2 51 = .ok (.goto 4, 3) := by decide +kernel
theorem dX6_put2_54 : decode cX6_put2 54 = .ok (.iconst 0, 1) := by decide +kernel
theorem dX6_put2_55 : decode cX6_put2 55 = .ok (.invokevirtual 135, 3) := by decide +kernel
theorem dX6_put2_58 : decode cX6_put2 58 = .ok (.ifCond .eq 4, 3) := by decide +kernel
theorem dX6_put2_61 : decode cX6_put2 61 = .ok (.return_, 1) := by decide +kernel
theorem dX6_put2_62 : decode cX6_put2 62 = .ok (.aload_n 0, 1) := by decide +kernel
theorem dX6_put2_63 : decode cX6_put2 63 = .ok (.invokevirtual 145, 3) := by decide +kernel
theorem dX6_put2_66 : decode cX6_put2 66 = .ok (.lload_n 2, 1) := by decide +kernel
theorem dX6_put2_67 : decode cX6_put2 67 = .ok (.lstore 6, 2) := by decide +kernel
theorem dX6_put2_69 : decode cX6_put2 69 = .ok (.iconst 0, 1) := by decide +kernel
theorem dX6_put2_70 : decode cX6_put2 70 = .ok (.istore 8, 2) := by decide +kernel
theorem dX6_put2_72 : decode cX6_put2 72 = .ok (.lload 6, 2) := by decide +kernel
theorem dX6_put2_74 : decode cX6_put2 74 = .ok (.lconst 0, 1) := by decide +kernel
theorem dX6_put2_75 : decode cX6_put2 75 = .ok (.lcmp, 1) := by decide +kernel
theorem dX6_put2_76 : decode cX6_put2 76 = .ok (.ifCond .eq 46, 3) := by decide +kernel
theorem dX6_put2_79 : decode cX6_put2 79 = .ok (.lload 6, 2) := by decide +kernel
theorem dX6_put2_81 : decode cX6_put2 81 = .ok (.ldc2_w 200, 3) := by decide +kernel
theorem dX6_put2_84 : decode cX6_put2 84 = .ok (.lrem, 1) := by decide +kernel
theorem dX6_put2_85 : decode cX6_put2 85 = .ok (.l2i, 1) := by decide +kernel
theorem dX6_put2_86 : decode cX6_put2 86 = .ok (.istore 9, 2) := by decide +kernel
theorem dX6_put2_88 : decode cX6_put2 88 = .ok (.aload_n 0, 1) := by decide +kernel
theorem dX6_put2_89 : decode cX6_put2 89 = .ok (.getfield 59, 3) := by decide +kernel
theorem dX6_put2_92 : decode cX6_put2 92 = .ok (.iload 8, 2) := by decide +kernel
theorem dX6_put2_94 : decode cX6_put2 94 = .ok (.iload 9, 2) := by decide +kernel
theorem dX6_put2_96 : decode cX6_put2 96 = .ok (.ifCond .ge 9, 3) := by decide +kernel
theorem dX6_put2_99 : decode cX6_put2 99 = .ok (.iload 9, 2) := by decide +kernel
theorem dX6_put2_101 : decode cX6_put2 101 = .ok (.ineg, 1) := by decide +kernel
theorem dX6_put2_102 : decode cX6_put2 102 = .ok (.goto 5, 3) := by decide +kernel
theorem dX6_put2_105 : decode cX6_put2 105 = .ok (.iload 9, 2) := by decide +kernel
theorem dX6_put2_107 : decode cX6_put2 107 = .ok (.iastore, 1) := by decide +kernel
theorem dX6_put2_108 : decode cX6_put2 108 = .ok (.lload 6, 2) := by decide +kernel
theorem dX6_put2_110 : decode cX6_put2 110 = .ok (.ldc2_w 200, 3) := by decide +kernel
theorem dX6_put2_113 : decode cX6_put2 113 = .ok (.ldiv, 1) := by decide +kernel
theorem dX6_put2_114 : decode cX6_put2 114 = .ok (.lstore 6, 2) := by decide +kernel
theorem dX6_put2_116 : decode cX6_put2 116 = .ok (.iinc 8 1, 3) := by decide +kernel
theorem dX6_put2_119 : decode cX6_put2 119 = .ok (.goto (-47), 3) := by decide +kernel
theorem dX6_put2_122 : decode cX6_put2 122 = .ok (.aload_n 0, 1) := by decide +kernel
theorem dX6_put2_123 : decode cX6_put2 123 = .ok (.iload 4, 2) := by decide +kernel
theorem dX6_put2_125 : decode cX6_put2 125 = .ok (.putfield 161, 3) := by decide +kernel
theorem dX6_put2_128 : decode cX6_put2 128 = .ok (.aload_n 0, 1) := by decide +kernel
theorem dX6_put2_129 : decode cX6_put2 129 = .ok (.lload_n 2, 1) := by decide +kernel
theorem dX6_put2_130 : decode cX6_put2 130 = .ok (.lconst 0, 1) := by decide +kernel
theorem dX6_put2_131 : decode cX6_put2 131 = .ok (.lcmp, 1) := by decide +kernel
theorem dX6_put2_132 : decode cX6_put2 132 = .ok (.ifCond .ge 7, 3) := by decide +kernel
theorem dX6_put2_135 : decode cX6_put2 135 = .ok (.iconst 1, 1) := by decide +kernel
theorem dX6_put2_136 : decode cX6_put2 136 = .ok (.goto 4, 3) := by decide +kernel
theorem dX6_put2_139 : decode cX6_put2 139 = .ok (.iconst 0, 1) := by decide +kernel
theorem dX6_put2_140 : decode cX6_put2 140 = .ok (.putfield 164, 3) := by decide +kernel
theorem dX6_put2_143 : decode cX6_put2 143 = .ok (.aload_n 0, 1) := by decide +kernel
theorem dX6_put2_144 : decode cX6_put2 144 = .ok (.iload_n 1, 1) := by decide +kernel
theorem dX6_put2_145 : decode cX6_put2 145 = .ok (.invokevirtual 152, 3) := by decide +kernel
theorem dX6_put2_148 : decode cX6_put2 148 = .ok (.return_, 1) := by decide +kernel
def m_M_put_140  (x1 : Int32) (t0 : Int32) (v : Nat → Int32) (u : Nat → Nat → Int32) : Option ((Nat → Int32) × (Nat → Nat → Int32)) := zbo t0 ((m_M_storeNumber x1 (upd v 21 t0) u).bind (fun q12 => (some ((upd v 21 t0), q12))))
def m_M_put_107  (rec : Int32 → Int64 → Int32 → Int64 → Int32 → (Nat → Int32) → (Nat → Nat → Int32) → Option ((Nat → Int32) × (Nat → Nat → Int32))) (x1 : Int32) (x2 : Int64) (x4 : Int32) (x6 : Int64) (x8 : Int32) (t0 : Int32) (t1 : Int32) (v : Nat → Int32) (u : Nat → Nat → Int32) : Option ((Nat → Int32) × (Nat → Nat → Int32)) := zix t1 48 (rec x1 x2 x4 (x6 / 10) (x8 + 1) v (zau u 17 t1 t0))
def m_M_put_72b  (rec : Int32 → Int64 → Int32 → Int64 → Int32 → (Nat → Int32) → (Nat → Nat → Int32) → Option ((Nat → Int32) × (Nat → Nat → Int32))) (x1 : Int32) (x2 : Int64) (x4 : Int32) (x6 : Int64) (x8 : Int32) (v : Nat → Int32) (u : Nat → Nat → Int32) : Option ((Nat → Int32) × (Nat → Nat → Int32)) := (if (lg_cmp x6 0) = 0 then (if 0 ≤ (lg_cmp x2 0) then m_M_put_140  x1 0 (upd v 20 x4) u else m_M_put_140  x1 1 (upd v 20 x4) u) else (if 0 ≤ (((x6 - x6 / 10 * 10)).toInt32) then m_M_put_107  rec x1 x2 x4 x6 x8 (((x6 - x6 / 10 * 10)).toInt32) x8 v u else m_M_put_107  rec x1 x2 x4 x6 x8 (0 - (((x6 - x6 / 10 * 10)).toInt32)) x8 v u))
def m_M_put_72  : Nat → Int32 → Int64 → Int32 → Int64 → Int32 → (Nat → Int32) → (Nat → Nat → Int32) → Option ((Nat → Int32) × (Nat → Nat → Int32))
  | 0 => fun _ _ _ _ _ _ _ => none
  | n + 1 => fun x1 x2 x4 x6 x8 v u => m_M_put_72b  (m_M_put_72  n) x1 x2 x4 x6 x8 v u
def m_M_put_55  (x1 : Int32) (x2 : Int64) (x4 : Int32) (t0 : Int32) (t1 : Int32) (t2 : Int32) (v : Nat → Int32) (u : Nat → Nat → Int32) : Option ((Nat → Int32) × (Nat → Nat → Int32)) := (m_M_fails t2 t1 t0 v u).bind (fun q5 => (if q5.1 = 0 then (m_M_nothing q5.2 u).bind (fun q7 => m_M_put_72  64 x1 x2 x4 x2 0 q7.1 q7.2) else (some (q5.2, u))))
def m_M_put_54  (x1 : Int32) (x2 : Int64) (x4 : Int32) (t0 : Int32) (t1 : Int32) (v : Nat → Int32) (u : Nat → Nat → Int32) : Option ((Nat → Int32) × (Nat → Nat → Int32)) := m_M_put_55  x1 x2 x4 0 t0 t1 v u
def m_M_put_35  (x1 : Int32) (x2 : Int64) (x4 : Int32) (x5 : Int32) (t0 : Int32) (t1 : Int32) (v : Nat → Int32) (u : Nat → Nat → Int32) : Option ((Nat → Int32) × (Nat → Nat → Int32)) := (if x5 = 0 then zix x1 9 ((if ((u 5) x1.toNatClampNeg) = 1 then m_M_put_55  x1 x2 x4 1 t0 t1 v u else m_M_put_54  x1 x2 x4 t0 t1 v u)) else m_M_put_54  x1 x2 x4 t0 t1 v u)
def m_M_put_30  (x1 : Int32) (x2 : Int64) (x4 : Int32) (x5 : Int32) (t0 : Int32) (v : Nat → Int32) (u : Nat → Nat → Int32) : Option ((Nat → Int32) × (Nat → Nat → Int32)) := m_M_put_35  x1 x2 x4 x5 1 t0 v u
def m_M_put_13  (x1 : Int32) (x2 : Int64) (x4 : Int32) (t0 : Int32) (v : Nat → Int32) (u : Nat → Nat → Int32) : Option ((Nat → Int32) × (Nat → Nat → Int32)) := (if x4 < 0 then m_M_put_30  x1 x2 x4 t0 t0 v u else (if x4 ≤ 6 then m_M_put_35  x1 x2 x4 t0 0 t0 v u else m_M_put_30  x1 x2 x4 t0 t0 v u))
def m_M_put (a0 : Int32) (a1 : Int64) (a2 : Int32) (v : Nat → Int32) (u : Nat → Nat → Int32)  : Option ((Nat → Int32) × (Nat → Nat → Int32)) := (m_M_isField a0 v u).bind (fun q1 => (if q1 = 0 then m_M_put_13  a0 a1 a2 1 v u else m_M_put_13  a0 a1 a2 0 v u))
section
variable {p : Program} {l : Launch} {e : Env} {s : State} {m : MethodId} {args : Array Value} {below : List Frame} {meth : Method} {c : Code} {D : va_G} {w0 : va_W} {ad : Nat → Nat} {ca : Nat → ClassId}
set_option maxRecDepth 100000 in
set_option maxHeartbeats 4000000 in
theorem b_M_put_140 (G : zG p s m args meth c cX6_put2 RX6 10 none) (hK : va_K D vwCl (wM_t ca) s) (hX : zN (va_A w0 s.heap.size) s) {res : (Nat → Int32) × (Nat → Nat → Int32)} : ∀ (x1 : Int32) (t0 : Int32) (v : Nat → Int32) (u : Nat → Nat → Int32), m_M_put_140  x1 t0 v u = some res → zB p l e (zR 5 127) s m args below meth c D vwCl (va_A w0 s.heap.size) (MQ below (zQv D vwCl w0 (wM ad ca res.1 res.2) s.heap.size) args s 0 0 (va_A w0 s.heap.size)) 10 (wM ad ca v u) [(0, .ref (ad 0)), (1, .int x1)] 140 [.int t0, .ref (ad 0)] := by
  intro x1 t0 v u hm H locs ls hP hD hS hl
  unfold m_M_put_140 at hm
  have G0 := G
  obtain ⟨hx, hb, hr, hml, hown, hw, hlk⟩ := G
  have hA : ∀ q, s.heap.size ≤ q → va_A w0 s.heap.size q := fun q h => Or.inr h
  obtain ⟨hz10, hz11, hm⟩ := zbo_s hm
  refine va_put (D := D) (ci := 5) (v := .int t0) (ty := .boolean) (C := RX6) (T := TX6) (N := 24) hx hb hw zinX6 tyX6 tyX6_ok nmX6 hown hK hP hD hS 0 rfl rfl 21 (by decide) (hw _ zw19) (fun _ h9 => h9) rfl (by decide +kernel) hz10 hz11 (Nat.le_of_ble_eq_true rfl) dX6_put2_140 (fun H locs hP hD hS => ?_)
  have hP : va_P D vwCl (wM ad ca (upd v 21 t0) u) H := hP
  have hD : va_D _ (wM ad ca (upd v 21 t0) u) := hD
  refine lv_aload_n hx hb dX6_put2_143 rfl (lv_at hl 0 rfl) ?_
  refine lv_iload_n hx hb dX6_put2_144 rfl (lv_at hl 1 rfl) ?_
  obtain ⟨q12, hq12, hm⟩ := zbind hm
  refine zbWv (va_runV (As := [.int x1]) (rest := []) ⟨hx, hb, hml, hown, hw⟩ (k_M_storeNumber l D ad ca _ x1 (upd v 21 t0) u  q12 hq12) (zcV (C := RX6) 1 hw (zgood zw134) rfl rfl rfl zw7 zw136 zw135 zw137 hdX6_storeNumber ⟨Nat.le_of_ble_eq_true rfl, Nat.le_of_ble_eq_true rfl⟩) (zpreV (zpre zN_ok trivial hS (zfree hD hS hA) hP hK hD) (va_recv hK hP rfl (q0 := 0) rfl)) rfl rfl hl.1 rfl (lv_room (Nat.le_of_ble_eq_true rfl)) dX6_put2_145 ⟨Nat.zero_le _, Nat.zero_le _⟩) hS (zfree hD hS hA) (fun H locs hP hD hS => ?_)
  have hP : va_P D vwCl (wM ad ca (upd v 21 t0) q12) H := hP
  have hD : va_D _ (wM ad ca (upd v 21 t0) q12) := hD
  cases hm
  exact zretv hx hb hr hlk hP hD hS dX6_put2_148
set_option maxRecDepth 100000 in
set_option maxHeartbeats 4000000 in
theorem b_M_put_107 (G : zG p s m args meth c cX6_put2 RX6 10 none) (hK : va_K D vwCl (wM_t ca) s) (hX : zN (va_A w0 s.heap.size) s) {res : (Nat → Int32) × (Nat → Nat → Int32)} (rec : Int32 → Int64 → Int32 → Int64 → Int32 → (Nat → Int32) → (Nat → Nat → Int32) → Option ((Nat → Int32) × (Nat → Nat → Int32))) (hrec : ∀ (x1 : Int32) (x2 : Int64) (x4 : Int32) (x6 : Int64) (x8 : Int32) (v : Nat → Int32) (u : Nat → Nat → Int32), rec x1 x2 x4 x6 x8 v u = some res → zB p l e (zR 5 127) s m args below meth c D vwCl (va_A w0 s.heap.size) (MQ below (zQv D vwCl w0 (wM ad ca res.1 res.2) s.heap.size) args s 0 0 (va_A w0 s.heap.size)) 10 (wM ad ca v u) [(0, .ref (ad 0)), (1, .int x1), (2, .long x2), (4, .int x4), (6, .long x6), (8, .int x8)] 72 []) : ∀ (x1 : Int32) (x2 : Int64) (x4 : Int32) (x6 : Int64) (x8 : Int32) (t0 : Int32) (t1 : Int32) (v : Nat → Int32) (u : Nat → Nat → Int32), m_M_put_107  rec x1 x2 x4 x6 x8 t0 t1 v u = some res → zB p l e (zR 5 127) s m args below meth c D vwCl (va_A w0 s.heap.size) (MQ below (zQv D vwCl w0 (wM ad ca res.1 res.2) s.heap.size) args s 0 0 (va_A w0 s.heap.size)) 10 (wM ad ca v u) [(0, .ref (ad 0)), (1, .int x1), (2, .long x2), (4, .int x4), (6, .long x6), (8, .int x8)] 107 [.int t0, .int t1, .ref (ad 17)] := by
  intro x1 x2 x4 x6 x8 t0 t1 v u hm H locs ls hP hD hS hl
  unfold m_M_put_107 at hm
  have G0 := G
  obtain ⟨hx, hb, hr, hml, hown, hw, hlk⟩ := G
  have hA : ∀ q, s.heap.size ≤ q → va_A w0 s.heap.size q := fun q h => Or.inr h
  obtain ⟨hi14, hm⟩ := zix_s hm
  refine va_iast (i := t1) (x := t0) (f := (u 17)) (n := 48) hx hb hK hP hD hS 17 16 rfl rfl hi14 dX6_put2_107 (fun H locs hP hD hS => ?_)
  have hP : va_P D vwCl (wM ad ca v (zau u 17 t1 t0)) H := hP
  have hD : va_D _ (wM ad ca v (zau u 17 t1 t0)) := hD
  refine lv_lload hx hb dX6_put2_108 (lv_at hl 4 rfl) ?_
  refine lv_ldc2 (v := 10) hx hb hown (hw _ zw158) dX6_put2_110 ?_
  refine lv_ldiv hx hb dX6_put2_113 (by decide) ?_
  refine lv_lstore (lv' := [(6, .long (x6 / 10)), (0, .ref (ad 0)), (1, .int x1), (2, .long x2), (4, .int x4), (8, .int x8)]) hx hb dX6_put2_114 hl (by decide) rfl (fun ls hl => ?_)
  refine lv_iinc (k := 5) (v := (x8 + 1)) (lv' := [(8, .int (x8 + 1)), (6, .long (x6 / 10)), (0, .ref (ad 0)), (1, .int x1), (2, .long x2), (4, .int x4)]) hx hb dX6_put2_116 hl rfl rfl (by decide) rfl (fun ls hl => ?_)
  refine lv_goto (tgt := 72) hx hb dX6_put2_119 rfl ?_
  exact hrec _ _ _ _ _ _ _ hm H _ _ hP hD hS (lv_sub hl [2, 3, 4, 5, 1, 0] rfl)
set_option maxRecDepth 100000 in
set_option maxHeartbeats 4000000 in
theorem b_M_put_72 (G : zG p s m args meth c cX6_put2 RX6 10 none) (hK : va_K D vwCl (wM_t ca) s) (hX : zN (va_A w0 s.heap.size) s) {res : (Nat → Int32) × (Nat → Nat → Int32)} : ∀ n : Nat, ∀ (x1 : Int32) (x2 : Int64) (x4 : Int32) (x6 : Int64) (x8 : Int32) (v : Nat → Int32) (u : Nat → Nat → Int32), m_M_put_72  n x1 x2 x4 x6 x8 v u = some res → zB p l e (zR 5 127) s m args below meth c D vwCl (va_A w0 s.heap.size) (MQ below (zQv D vwCl w0 (wM ad ca res.1 res.2) s.heap.size) args s 0 0 (va_A w0 s.heap.size)) 10 (wM ad ca v u) [(0, .ref (ad 0)), (1, .int x1), (2, .long x2), (4, .int x4), (6, .long x6), (8, .int x8)] 72 [] := by
  intro n
  induction n with
  | zero => intro x1 x2 x4 x6 x8 v u hm; cases hm
  | succ n ih =>
  have hrec := ih
  intro x1 x2 x4 x6 x8 v u hm H locs ls hP hD hS hl
  replace hm : m_M_put_72b  (m_M_put_72  n) x1 x2 x4 x6 x8 v u = some res := hm
  generalize m_M_put_72  n = rec at hm hrec
  unfold m_M_put_72b at hm
  clear ih
  have G0 := G
  obtain ⟨hx, hb, hr, hml, hown, hw, hlk⟩ := G
  have hA : ∀ q, s.heap.size ≤ q → va_A w0 s.heap.size q := fun q h => Or.inr h
  refine lv_lload hx hb dX6_put2_72 (lv_at hl 4 rfl) ?_
  refine lv_lconst (v := 0) hx hb dX6_put2_74 (by decide) ?_
  refine W.lcmp (x := x6) (y := 0) hx hb dX6_put2_75 ?_
  refine lv_if_eq (tgt := 122) hx hb dX6_put2_76 rfl (fun cd8 => ?_) (fun cd8 => ?_)
  · replace hm := zt cd8 hm
    refine lv_aload_n hx hb dX6_put2_122 rfl (lv_at hl 0 rfl) ?_
    refine lv_iload hx hb dX6_put2_123 (lv_at hl 3 rfl) ?_
    refine va_put (D := D) (ci := 5) (v := .int x4) (ty := .int) (C := RX6) (T := TX6) (N := 24) hx hb hw zinX6 tyX6 tyX6_ok nmX6 hown hK hP hD hS 0 rfl rfl 20 (by decide) (hw _ zw18) (fun _ h9 => h9) rfl (by decide +kernel) rfl rfl (Nat.le_of_ble_eq_true rfl) dX6_put2_125 (fun H locs hP hD hS => ?_)
    have hP : va_P D vwCl (wM ad ca (upd v 20 x4) u) H := hP
    have hD : va_D _ (wM ad ca (upd v 20 x4) u) := hD
    refine lv_aload_n hx hb dX6_put2_128 rfl (lv_at hl 0 rfl) ?_
    refine lv_lload_n hx hb dX6_put2_129 rfl (lv_at hl 2 rfl) ?_
    refine lv_lconst (v := 0) hx hb dX6_put2_130 (by decide) ?_
    refine W.lcmp (x := x2) (y := 0) hx hb dX6_put2_131 ?_
    refine lv_if_ge (tgt := 139) hx hb dX6_put2_132 rfl (fun cd9 => ?_) (fun cd9 => ?_)
    · replace hm := zt cd9 hm
      refine lv_iconst (v := 0) hx hb dX6_put2_139 (by decide) ?_
      exact b_M_put_140 G0 hK hX _ _ _ _ hm H _ _ hP hD hS (lv_sub hl [0, 1] rfl)
    · replace hm := zf cd9 hm
      refine lv_iconst (v := 1) hx hb dX6_put2_135 (by decide) ?_
      refine lv_goto (tgt := 140) hx hb dX6_put2_136 rfl ?_
      exact b_M_put_140 G0 hK hX _ _ _ _ hm H _ _ hP hD hS (lv_sub hl [0, 1] rfl)
  · replace hm := zf cd8 hm
    refine lv_lload hx hb dX6_put2_79 (lv_at hl 4 rfl) ?_
    refine lv_ldc2 (v := 10) hx hb hown (hw _ zw158) dX6_put2_81 ?_
    refine lv_lrem hx hb dX6_put2_84 (by decide) ?_
    refine lv_l2i (v := (((x6 - x6 / 10 * 10)).toInt32)) hx hb dX6_put2_85 rfl ?_
    refine lv_istore (lv' := [(9, .int (((x6 - x6 / 10 * 10)).toInt32)), (0, .ref (ad 0)), (1, .int x1), (2, .long x2), (4, .int x4), (6, .long x6), (8, .int x8)]) hx hb dX6_put2_86 hl (by decide) rfl (fun ls hl => ?_)
    refine lv_aload_n hx hb dX6_put2_88 rfl (lv_at hl 1 rfl) ?_
    refine va_get (D := D) (ci := 5) (v := .ref (ad 17)) (C := RX6) (T := TX6) (N := 24) hx hb hw zinX6 hown hK hP 0 rfl rfl 19 (by decide) (hw _ zw20) (fun _ h9 => h9) rfl dX6_put2_89 ?_
    refine lv_iload hx hb dX6_put2_92 (lv_at hl 6 rfl) ?_
    refine lv_iload hx hb dX6_put2_94 (lv_at hl 0 rfl) ?_
    refine lv_if_ge (tgt := 105) hx hb dX6_put2_96 rfl (fun cd13 => ?_) (fun cd13 => ?_)
    · replace hm := zt cd13 hm
      refine lv_iload hx hb dX6_put2_105 (lv_at hl 0 rfl) ?_
      exact b_M_put_107 G0 hK hX rec hrec _ _ _ _ _ _ _ _ _ hm H _ _ hP hD hS (lv_sub hl [1, 2, 3, 4, 5, 6] rfl)
    · replace hm := zf cd13 hm
      refine lv_iload hx hb dX6_put2_99 (lv_at hl 0 rfl) ?_
      refine lv_ineg hx hb dX6_put2_101 ?_
      refine lv_goto (tgt := 107) hx hb dX6_put2_102 rfl ?_
      exact b_M_put_107 G0 hK hX rec hrec _ _ _ _ _ _ _ _ _ hm H _ _ hP hD hS (lv_sub hl [1, 2, 3, 4, 5, 6] rfl)
set_option maxRecDepth 100000 in
set_option maxHeartbeats 4000000 in
theorem b_M_put_55 (G : zG p s m args meth c cX6_put2 RX6 10 none) (hK : va_K D vwCl (wM_t ca) s) (hX : zN (va_A w0 s.heap.size) s) {res : (Nat → Int32) × (Nat → Nat → Int32)} : ∀ (x1 : Int32) (x2 : Int64) (x4 : Int32) (t0 : Int32) (t1 : Int32) (t2 : Int32) (v : Nat → Int32) (u : Nat → Nat → Int32), m_M_put_55  x1 x2 x4 t0 t1 t2 v u = some res → zB p l e (zR 5 127) s m args below meth c D vwCl (va_A w0 s.heap.size) (MQ below (zQv D vwCl w0 (wM ad ca res.1 res.2) s.heap.size) args s 0 0 (va_A w0 s.heap.size)) 10 (wM ad ca v u) [(0, .ref (ad 0)), (1, .int x1), (2, .long x2), (4, .int x4)] 55 [.int t0, .int t1, .int t2, .ref (ad 0)] := by
  intro x1 x2 x4 t0 t1 t2 v u hm H locs ls hP hD hS hl
  unfold m_M_put_55 at hm
  have G0 := G
  obtain ⟨hx, hb, hr, hml, hown, hw, hlk⟩ := G
  have hA : ∀ q, s.heap.size ≤ q → va_A w0 s.heap.size q := fun q h => Or.inr h
  obtain ⟨q5, hq5, hm⟩ := zbind hm
  refine zbWi (va_runV (As := [.int t2, .int t1, .int t0]) (rest := []) ⟨hx, hb, hml, hown, hw⟩ (k_M_fails l D ad ca _ t2 t1 t0 v u  q5 hq5) (zcV (C := RX6) 3 hw (zgood zw122) rfl rfl rfl zw7 zw124 zw123 zw125 hdX6_fails ⟨Nat.le_of_ble_eq_true rfl, Nat.le_of_ble_eq_true rfl⟩) (zpreV (zpre zN_ok trivial hS (zfree hD hS hA) hP hK hD) (va_recv hK hP rfl (q0 := 0) rfl)) rfl rfl hl.1 rfl (lv_room (Nat.le_of_ble_eq_true rfl)) dX6_put2_55 ⟨Nat.zero_le _, Nat.zero_le _⟩) hS (zfree hD hS hA) (fun H locs hP hD hS => ?_)
  have hP : va_P D vwCl (wM ad ca q5.2 u) H := hP
  have hD : va_D _ (wM ad ca q5.2 u) := hD
  refine lv_if_eq (tgt := 62) hx hb dX6_put2_58 rfl (fun cd6 => ?_) (fun cd6 => ?_)
  · replace hm := zt cd6 hm
    refine lv_aload_n hx hb dX6_put2_62 rfl (lv_at hl 0 rfl) ?_
    obtain ⟨q7, hq7, hm⟩ := zbind hm
    refine zbWv (va_runV (As := []) (rest := []) ⟨hx, hb, hml, hown, hw⟩ (k_M_nothing l D ad ca _ q5.2 u  q7 hq7) (zcV (C := RX6) 0 hw (zgood zw130) rfl rfl rfl zw7 zw132 zw131 zw133 hdX6_nothing ⟨Nat.le_of_ble_eq_true rfl, Nat.le_of_ble_eq_true rfl⟩) (zpreV (zpre zN_ok trivial hS (zfree hD hS hA) hP hK hD) (va_recv hK hP rfl (q0 := 0) rfl)) rfl rfl hl.1 rfl (lv_room (Nat.le_of_ble_eq_true rfl)) dX6_put2_63 ⟨Nat.zero_le _, Nat.zero_le _⟩) hS (zfree hD hS hA) (fun H locs hP hD hS => ?_)
    have hP : va_P D vwCl (wM ad ca q7.1 q7.2) H := hP
    have hD : va_D _ (wM ad ca q7.1 q7.2) := hD
    refine lv_lload_n hx hb dX6_put2_66 rfl (lv_at hl 2 rfl) ?_
    refine lv_lstore (lv' := [(6, .long x2), (0, .ref (ad 0)), (1, .int x1), (2, .long x2), (4, .int x4)]) hx hb dX6_put2_67 hl (by decide) rfl (fun ls hl => ?_)
    refine lv_iconst (v := 0) hx hb dX6_put2_69 (by decide) ?_
    refine lv_istore (lv' := [(8, .int 0), (6, .long x2), (0, .ref (ad 0)), (1, .int x1), (2, .long x2), (4, .int x4)]) hx hb dX6_put2_70 hl (by decide) rfl (fun ls hl => ?_)
    exact b_M_put_72 G0 hK hX 64 _ _ _ _ _ _ _ hm H _ _ hP hD hS (lv_sub hl [2, 3, 4, 5, 1, 0] rfl)
  · replace hm := zf cd6 hm
    cases hm
    exact zretv hx hb hr hlk hP hD hS dX6_put2_61
set_option maxRecDepth 100000 in
set_option maxHeartbeats 4000000 in
theorem b_M_put_54 (G : zG p s m args meth c cX6_put2 RX6 10 none) (hK : va_K D vwCl (wM_t ca) s) (hX : zN (va_A w0 s.heap.size) s) {res : (Nat → Int32) × (Nat → Nat → Int32)} : ∀ (x1 : Int32) (x2 : Int64) (x4 : Int32) (t0 : Int32) (t1 : Int32) (v : Nat → Int32) (u : Nat → Nat → Int32), m_M_put_54  x1 x2 x4 t0 t1 v u = some res → zB p l e (zR 5 127) s m args below meth c D vwCl (va_A w0 s.heap.size) (MQ below (zQv D vwCl w0 (wM ad ca res.1 res.2) s.heap.size) args s 0 0 (va_A w0 s.heap.size)) 10 (wM ad ca v u) [(0, .ref (ad 0)), (1, .int x1), (2, .long x2), (4, .int x4)] 54 [.int t0, .int t1, .ref (ad 0)] := by
  intro x1 x2 x4 t0 t1 v u hm H locs ls hP hD hS hl
  unfold m_M_put_54 at hm
  have G0 := G
  obtain ⟨hx, hb, hr, hml, hown, hw, hlk⟩ := G
  have hA : ∀ q, s.heap.size ≤ q → va_A w0 s.heap.size q := fun q h => Or.inr h
  refine lv_iconst (v := 0) hx hb dX6_put2_54 (by decide) ?_
  exact b_M_put_55 G0 hK hX _ _ _ _ _ _ _ _ hm H _ _ hP hD hS hl
set_option maxRecDepth 100000 in
set_option maxHeartbeats 4000000 in
theorem b_M_put_35 (G : zG p s m args meth c cX6_put2 RX6 10 none) (hK : va_K D vwCl (wM_t ca) s) (hX : zN (va_A w0 s.heap.size) s) {res : (Nat → Int32) × (Nat → Nat → Int32)} : ∀ (x1 : Int32) (x2 : Int64) (x4 : Int32) (x5 : Int32) (t0 : Int32) (t1 : Int32) (v : Nat → Int32) (u : Nat → Nat → Int32), m_M_put_35  x1 x2 x4 x5 t0 t1 v u = some res → zB p l e (zR 5 127) s m args below meth c D vwCl (va_A w0 s.heap.size) (MQ below (zQv D vwCl w0 (wM ad ca res.1 res.2) s.heap.size) args s 0 0 (va_A w0 s.heap.size)) 10 (wM ad ca v u) [(0, .ref (ad 0)), (1, .int x1), (2, .long x2), (4, .int x4), (5, .int x5)] 35 [.int t0, .int t1, .ref (ad 0)] := by
  intro x1 x2 x4 x5 t0 t1 v u hm H locs ls hP hD hS hl
  unfold m_M_put_35 at hm
  have G0 := G
  obtain ⟨hx, hb, hr, hml, hown, hw, hlk⟩ := G
  have hA : ∀ q, s.heap.size ≤ q → va_A w0 s.heap.size q := fun q h => Or.inr h
  refine lv_iload hx hb dX6_put2_35 (lv_at hl 4 rfl) ?_
  refine lv_if_ne (tgt := 54) hx hb dX6_put2_37 rfl (fun cd4 => ?_) (fun cd4 => ?_)
  · replace hm := zf cd4 hm
    exact b_M_put_54 G0 hK hX _ _ _ _ _ _ _ hm H _ _ hP hD hS (lv_sub hl [0, 1, 2, 3] rfl)
  · replace hm := zt cd4 hm
    refine lv_aload_n hx hb dX6_put2_40 rfl (lv_at hl 0 rfl) ?_
    refine va_get (D := D) (ci := 5) (v := .ref (ad 5)) (C := RX6) (T := TX6) (N := 24) hx hb hw zinX6 hown hK hP 0 rfl rfl 7 (by decide) (hw _ zw46) (fun _ h9 => h9) rfl dX6_put2_41 ?_
    refine lv_iload_n hx hb dX6_put2_44 rfl (lv_at hl 1 rfl) ?_
    obtain ⟨hi15, hm⟩ := zix_s hm
    refine va_iald (i := x1) (f := (u 5)) (n := 9) hx hb hK hP 5 4 rfl rfl hi15 dX6_put2_45 ?_
    refine lv_iconst (v := 1) hx hb dX6_put2_46 (by decide) ?_
    refine lv_icmp_ne (tgt := 54) hx hb dX6_put2_47 rfl (fun cd16 => ?_) (fun cd16 => ?_)
    · replace hm := zf cd16 hm
      exact b_M_put_54 G0 hK hX _ _ _ _ _ _ _ hm H _ _ hP hD hS (lv_sub hl [0, 1, 2, 3] rfl)
    · replace hm := zt cd16 hm
      refine lv_iconst (v := 1) hx hb dX6_put2_50 (by decide) ?_
      refine lv_goto (tgt := 55) hx hb dX6_put2_51 rfl ?_
      exact b_M_put_55 G0 hK hX _ _ _ _ _ _ _ _ hm H _ _ hP hD hS (lv_sub hl [0, 1, 2, 3] rfl)
set_option maxRecDepth 100000 in
set_option maxHeartbeats 4000000 in
theorem b_M_put_30 (G : zG p s m args meth c cX6_put2 RX6 10 none) (hK : va_K D vwCl (wM_t ca) s) (hX : zN (va_A w0 s.heap.size) s) {res : (Nat → Int32) × (Nat → Nat → Int32)} : ∀ (x1 : Int32) (x2 : Int64) (x4 : Int32) (x5 : Int32) (t0 : Int32) (v : Nat → Int32) (u : Nat → Nat → Int32), m_M_put_30  x1 x2 x4 x5 t0 v u = some res → zB p l e (zR 5 127) s m args below meth c D vwCl (va_A w0 s.heap.size) (MQ below (zQv D vwCl w0 (wM ad ca res.1 res.2) s.heap.size) args s 0 0 (va_A w0 s.heap.size)) 10 (wM ad ca v u) [(0, .ref (ad 0)), (1, .int x1), (2, .long x2), (4, .int x4), (5, .int x5)] 30 [.int t0, .ref (ad 0)] := by
  intro x1 x2 x4 x5 t0 v u hm H locs ls hP hD hS hl
  unfold m_M_put_30 at hm
  have G0 := G
  obtain ⟨hx, hb, hr, hml, hown, hw, hlk⟩ := G
  have hA : ∀ q, s.heap.size ≤ q → va_A w0 s.heap.size q := fun q h => Or.inr h
  refine lv_iconst (v := 1) hx hb dX6_put2_30 (by decide) ?_
  refine lv_goto (tgt := 35) hx hb dX6_put2_31 rfl ?_
  exact b_M_put_35 G0 hK hX _ _ _ _ _ _ _ _ hm H _ _ hP hD hS hl
set_option maxRecDepth 100000 in
set_option maxHeartbeats 4000000 in
theorem b_M_put_13 (G : zG p s m args meth c cX6_put2 RX6 10 none) (hK : va_K D vwCl (wM_t ca) s) (hX : zN (va_A w0 s.heap.size) s) {res : (Nat → Int32) × (Nat → Nat → Int32)} : ∀ (x1 : Int32) (x2 : Int64) (x4 : Int32) (t0 : Int32) (v : Nat → Int32) (u : Nat → Nat → Int32), m_M_put_13  x1 x2 x4 t0 v u = some res → zB p l e (zR 5 127) s m args below meth c D vwCl (va_A w0 s.heap.size) (MQ below (zQv D vwCl w0 (wM ad ca res.1 res.2) s.heap.size) args s 0 0 (va_A w0 s.heap.size)) 10 (wM ad ca v u) [(0, .ref (ad 0)), (1, .int x1), (2, .long x2), (4, .int x4)] 13 [.int t0] := by
  intro x1 x2 x4 t0 v u hm H locs ls hP hD hS hl
  unfold m_M_put_13 at hm
  have G0 := G
  obtain ⟨hx, hb, hr, hml, hown, hw, hlk⟩ := G
  have hA : ∀ q, s.heap.size ≤ q → va_A w0 s.heap.size q := fun q h => Or.inr h
  refine lv_istore (lv' := [(5, .int t0), (0, .ref (ad 0)), (1, .int x1), (2, .long x2), (4, .int x4)]) hx hb dX6_put2_13 hl (by decide) rfl (fun ls hl => ?_)
  refine lv_aload_n hx hb dX6_put2_15 rfl (lv_at hl 1 rfl) ?_
  refine lv_iload hx hb dX6_put2_16 (lv_at hl 0 rfl) ?_
  refine lv_iload hx hb dX6_put2_18 (lv_at hl 4 rfl) ?_
  refine lv_if_lt (tgt := 30) hx hb dX6_put2_20 rfl (fun cd3 => ?_) (fun cd3 => ?_)
  · replace hm := zt cd3 hm
    exact b_M_put_30 G0 hK hX _ _ _ _ _ _ _ hm H _ _ hP hD hS (lv_sub hl [1, 2, 3, 4, 0] rfl)
  · replace hm := zf cd3 hm
    refine lv_iload hx hb dX6_put2_23 (lv_at hl 4 rfl) ?_
    refine lv_bipush (v := 6) hx hb dX6_put2_25 (by decide) ?_
    refine lv_icmp_le (tgt := 34) hx hb dX6_put2_27 rfl (fun cd17 => ?_) (fun cd17 => ?_)
    · replace hm := zt cd17 hm
      refine lv_iconst (v := 0) hx hb dX6_put2_34 (by decide) ?_
      exact b_M_put_35 G0 hK hX _ _ _ _ _ _ _ _ hm H _ _ hP hD hS (lv_sub hl [1, 2, 3, 4, 0] rfl)
    · replace hm := zf cd17 hm
      exact b_M_put_30 G0 hK hX _ _ _ _ _ _ _ hm H _ _ hP hD hS (lv_sub hl [1, 2, 3, 4, 0] rfl)
end
set_option maxRecDepth 100000 in
set_option maxHeartbeats 4000000 in
theorem k_M_put (l : Launch) (D : va_G) (ad : Nat → Nat) (ca : Nat → ClassId) (sz : Nat) (a0 : Int32) (a1 : Int64) (a2 : Int32) (v : Nat → Int32) (u : Nat → Nat → Int32) (res : (Nat → Int32) × (Nat → Nat → Int32)) (hm : m_M_put a0 a1 a2 v u  = some res) : Met l yX6_put2 (Cond.code yX6_put2 cX6_put2 10 none :: zBIG) (zR 5 127) (va_Pc [.ref (ad 0), .int a0, .long a1, .int a2] (zP zN D vwCl (wM_t ca) (wM ad ca v u) sz)) (zQv D vwCl (wM ad ca v u) (wM ad ca res.1 res.2) sz) 0 0 (va_A (wM ad ca v u) sz) := by
  refine zEnter RX6 [.ref (ad 0), .int a0, .long a1, .int a2] (by decide) rfl (Nat.le_of_ble_eq_true rfl) (fun p e s m below meth c ls G hK hX hP hD hsz hl => ?_)
  subst hsz
  unfold m_M_put at hm
  have hl : lv_has ls 10 [(0, .ref (ad 0)), (1, .int a0), (2, .long a1), (4, .int a2)] := hl
  have hS : va_S (va_A (wM ad ca v u) s.heap.size) s.heap s.heap [] := va_S.rf
  have hA : ∀ q, s.heap.size ≤ q → va_A (wM ad ca v u) s.heap.size q := fun q h => Or.inr h
  have G0 := G
  obtain ⟨hx, hb, hr, hml, hown, hw, hlk⟩ := G
  refine lv_aload_n hx hb dX6_put2_0 rfl (lv_at hl 0 rfl) ?_
  refine lv_iload_n hx hb dX6_put2_1 rfl (lv_at hl 1 rfl) ?_
  obtain ⟨q1, hq1, hm⟩ := zbind hm
  refine zbWi (va_runV (As := [.int a0]) (rest := []) ⟨hx, hb, hml, hown, hw⟩ (k_M_isField l D ad ca _ a0 v u  q1 hq1) (zcV (C := RX6) 1 hw (zgood zw142) rfl rfl rfl zw7 zw144 zw143 zw145 hdX6_isField ⟨Nat.le_of_ble_eq_true rfl, Nat.le_of_ble_eq_true rfl⟩) (zpreV (zpre zN_ok trivial hS (zfree hD hS hA) hP hK hD) (va_recv hK hP rfl (q0 := 0) rfl)) rfl rfl hl.1 rfl (lv_room (Nat.le_of_ble_eq_true rfl)) dX6_put2_2 ⟨Nat.zero_le _, Nat.zero_le _⟩) hS (zfree hD hS hA) (fun H locs hP hD hS => ?_)
  refine lv_if_ne (tgt := 12) hx hb dX6_put2_5 rfl (fun cd2 => ?_) (fun cd2 => ?_)
  · replace hm := zf cd2 hm
    refine lv_iconst (v := 0) hx hb dX6_put2_12 (by decide) ?_
    exact b_M_put_13 G0 hK hX _ _ _ _ _ _ hm _ _ _ hP hD hS hl
  · replace hm := zt cd2 hm
    refine lv_iconst (v := 1) hx hb dX6_put2_8 (by decide) ?_
    refine lv_goto (tgt := 13) hx hb dX6_put2_9 rfl ?_
    exact b_M_put_13 G0 hK hX _ _ _ _ _ _ hm _ _ _ hP hD hS hl

theorem dX6_takeCharacters_0 : decode cX6_takeCharacters 0 = .ok (.aload_n 0, 1) := by decide +kernel
theorem dX6_takeCharacters_1 : decode cX6_takeCharacters 1 = .ok (.iconst 0, 1) := by decide +kernel
theorem dX6_takeCharacters_2 : decode cX6_takeCharacters 2 = .ok (.putfield 142, 3) := by decide +kernel
theorem dX6_takeCharacters_5 : decode cX6_takeCharacters 5 = .ok (.aload_n 0, 1) := by decide +kernel
theorem dX6_takeCharacters_6 : decode cX6_takeCharacters 6 = .ok (.getfield 22, 3) := by decide +kernel
theorem dX6_takeCharacters_9 : decode cX6_takeCharacters 9 = .ok (.iload_n 1, 1) := by decide +kernel
theorem dX6_takeCharacters_10 : decode cX6_takeCharacters 10 = .ok (.iaload, 1) := by decide +kernel
theorem dX6_takeCharacters_11 : decode cX6_takeCharacters 11 = .ok (.ifCond .ne 56, 3) := by decide +kernel
theorem dX6_takeCharacters_14 : decode cX6_takeCharacters 14 = .ok (.aload_n 0, 1) := by decide +kernel
theorem dX6_takeCharacters_15 : decode cX6_takeCharacters 15 = .ok (.iload_n 1, 1) := by decide +kernel
theorem dX6_takeCharacters_16 : decode cX6_takeCharacters 16 = .ok (.invokevirtual 202, 3) := by decide +kernel
theorem dX6_takeCharacters_19 : decode cX6_takeCharacters 19 = .ok (.aload_n 0, 1) := by decide +kernel
theorem dX6_takeCharacters_20 : decode cX6_takeCharacters 20 = .ok (.getfield 28, 3) := by decide +kernel
theorem dX6_takeCharacters_23 : decode cX6_takeCharacters 23 = .ok (.iload_n 1, 1) := by decide +kernel
theorem dX6_takeCharacters_24 : decode cX6_takeCharacters 24 = .ok (.iaload, 1) := by decide +kernel
theorem dX6_takeCharacters_25 : decode cX6_takeCharacters 25 = .ok (.iconst 1, 1) := by decide +kernel
theorem dX6_takeCharacters_26 : decode cX6_takeCharacters 26 = .ok (.isub, 1) := by decide +kernel
theorem dX6_takeCharacters_27 : decode cX6_takeCharacters 27 = .ok (.istore_n 2, 1) := by decide +kernel
theorem dX6_takeCharacters_28 : decode cX6_takeCharacters 28 = .ok (.iload_n 2, 1) := by decide +kernel
theorem dX6_takeCharacters_29 : decode cX6_takeCharacters 29 = .ok (.ifCond .lt 37, 3) := by decide +kernel
theorem dX6_takeCharacters_32 : decode cX6_takeCharacters 32 = .ok (.aload_n 0, 1) := by decide +kernel
theorem dX6_takeCharacters_33 : decode cX6_takeCharacters 33 = .ok (.getfield 62, 3) := by decide +kernel
theorem dX6_takeCharacters_36 : decode cX6_takeCharacters 36 = .ok (.aload_n 0, 1) := by decide +kernel
theorem dX6_takeCharacters_37 : decode cX6_takeCharacters 37 = .ok (.getfield 142, 3) := by decide +kernel
theorem dX6_takeCharacters_40 : decode cX6_takeCharacters 40 = .ok (.bipush 48, 2) := by decide +kernel
theorem dX6_takeCharacters_42 : decode cX6_takeCharacters 42 = .ok (.aload_n 0, 1) := by decide +kernel
theorem dX6_takeCharacters_43 : decode cX6_takeCharacters 43 = .ok (.getfield 59, 3) := by decide +kernel
theorem dX6_takeCharacters_46 : decode cX6_takeCharacters 46 = .ok (.iload_n 2, 1) := by decide +kernel
theorem dX6_takeCharacters_47 : decode cX6_takeCharacters 47 = .ok (.iaload, 1) := by decide +kernel
theorem dX6_takeCharacters_48 : decode cX6_takeCharacters 48 = .ok (.iadd, 1) := by decide +kernel
theorem dX6_takeCharacters_49 : decode cX6_takeCharacters 49 = .ok (.iastore, 1) := by decide +kernel
theorem dX6_takeCharacters_50 : decode cX6_takeCharacters 50 = .ok (.aload_n 0, 1) := by decide +kernel
theorem dX6_takeCharacters_51 : decode cX6_takeCharacters 51 = .ok (.dup, 1) := by decide +kernel
theorem dX6_takeCharacters_52 : decode cX6_takeCharacters 52 = .ok (.getfield 142, 3) := by decide +kernel
theorem dX6_takeCharacters_55 : decode cX6_takeCharacters 55 = .ok (.iconst 1, 1) := by decide +kernel
theorem dX6_takeCharacters_56 : decode cX6_takeCharacters 56 = .ok (.iadd, 1) := by decide +kernel
theorem dX6_takeCharacters_57 : decode cX6_takeCharacters 57 = .ok (.putfield 142, 3) := by decide +kernel
theorem dX6_takeCharacters_60 : decode cX6_takeCharacters 60 = .ok (.iinc 2 (-1), 3) := by decide +kernel
theorem dX6_takeCharacters_63 : decode cX6_takeCharacters 63 = .ok (.goto (-35), 3) := by decide +kernel
theorem dX6_takeCharacters_66 : decode cX6_takeCharacters 66 = .ok (.return_, 1) := by decide +kernel
theorem dX6_takeCharacters_67 : decode cX6_takeCharacters 67 = .ok (.iconst 0, 1) := by decide +kernel
theorem dX6_takeCharacters_68 : decode cX6_takeCharacters 68 = .ok (.istore_n 2, 1) := by decide +kernel
theorem dX6_takeCharacters_69 : decode cX6_takeCharacters 69 = .ok (.iload_n 2, 1) := by decide +kernel
theorem dX6_takeCharacters_70 : decode cX6_takeCharacters 70 = .ok (.aload_n 0, 1) := by decide +kernel
theorem dX6_takeCharacters_71 : decode cX6_takeCharacters 71 = .ok (.getfield 53, 3) := by decide +kernel
theorem dX6_takeCharacters_74 : decode cX6_takeCharacters 74 = .ok (.iload_n 1, 1) := by decide +kernel
theorem dX6_takeCharacters_75 : decode cX6_takeCharacters 75 = .ok (.iaload, 1) := by decide +kernel
theorem dX6_takeCharacters_76 : decode cX6_takeCharacters 76 = .ok (.if_icmp .ge 26, 3) := by decide +kernel
theorem dX6_takeCharacters_79 : decode cX6_takeCharacters 79 = .ok (.aload_n 0, 1) := by decide +kernel
theorem dX6_takeCharacters_80 : decode cX6_takeCharacters 80 = .ok (.getfield 62, 3) := by decide +kernel
theorem dX6_takeCharacters_83 : decode cX6_takeCharacters 83 = .ok (.iload_n 2, 1) := by decide +kernel
theorem dX6_takeCharacters_84 : decode cX6_takeCharacters 84 = .ok (.aload_n 0, 1) := by decide +kernel
theorem dX6_takeCharacters_85 : decode cX6_takeCharacters 85 = .ok (.getfield 56, 3) := by decide +kernel
theorem dX6_takeCharacters_88 : decode cX6_takeCharacters 88 = .ok (.bipush 32, 2) := by decide +kernel
theorem dX6_takeCharacters_90 : decode cX6_takeCharacters 90 = .ok (.iload_n 1, 1) := by decide +kernel
theorem dX6_takeCharacters_91 : decode cX6_takeCharacters 91 = .ok (.imul, 1) := by decide +kernel
theorem dX6_takeCharacters_92 : decode cX6_takeCharacters 92 = .ok (.iload_n 2, 1) := by decide +kernel
theorem dX6_takeCharacters_93 : decode cX6_takeCharacters 93 = .ok (.iadd, 1) := by decide +kernel
theorem dX6_takeCharacters_94 : decode cX6_takeCharacters 94 = .ok (.iaload, 1) := by decide +kernel
theorem dX6_takeCharacters_95 : decode cX6_takeCharacters 95 = .ok (.iastore, 1) := by decide +kernel
theorem dX6_takeCharacters_96 : decode cX6_takeCharacters 96 = .ok (.iinc 2 1, 3) := by decide +kernel
theorem dX6_takeCharacters_99 : decode cX6_takeCharacters 99 = .ok (.goto (-30), 3) := by decide +kernel
theorem dX6_takeCharacters_102 : decode cX6_takeCharacters 102 = .ok (.aload_n 0, 1) := by decide +kernel
theorem dX6_takeCharacters_103 : decode cX6_takeCharacters 103 = .ok (.aload_n 0, 1) := by decide +kernel
theorem dX6_takeCharacters_104 : decode cX6_takeCharacters 104 = .ok (.getfield 53, 3) := by decide +kernel
theorem dX6_takeCharacters_107 : decode cX6_takeCharacters 107 = .ok (.iload_n 1, 1) := by decide +kernel
theorem dX6_takeCharacters_108 : decode cX6_takeCharacters 108 = .ok (.iaload, 1) := by decide +kernel
theorem dX6_takeCharacters_109 : decode cX6_takeCharacters 109 = .ok (.putfield 142, 3) := by decide +kernel
theorem dX6_takeCharacters_112 : decode cX6_takeCharacters 112 = .ok (.return_, 1) := by decide +kernel
def m_M_takeCharacters_69b  (rec : Int32 → Int32 → (Nat → Int32) → (Nat → Nat → Int32) → Option ((Nat → Int32) × (Nat → Nat → Int32))) (x1 : Int32) (x2 : Int32) (v : Nat → Int32) (u : Nat → Nat → Int32) : Option ((Nat → Int32) × (Nat → Nat → Int32)) := zix x1 9 ((if ((u 15) x1.toNatClampNeg) ≤ x2 then zix x1 9 ((some ((upd v 23 ((u 15) x1.toNatClampNeg)), u))) else zix ((32 * x1) + x2) 256 (zix x2 32 (rec x1 (x2 + 1) v (zau u 18 x2 ((u 16) ((32 * x1) + x2).toNatClampNeg))))))
def m_M_takeCharacters_69  : Nat → Int32 → Int32 → (Nat → Int32) → (Nat → Nat → Int32) → Option ((Nat → Int32) × (Nat → Nat → Int32))
  | 0 => fun _ _ _ _ => none
  | n + 1 => fun x1 x2 v u => m_M_takeCharacters_69b  (m_M_takeCharacters_69  n) x1 x2 v u
def m_M_takeCharacters_28b  (rec : Int32 → (Nat → Int32) → (Nat → Nat → Int32) → Option ((Nat → Int32) × (Nat → Nat → Int32))) (x2 : Int32) (v : Nat → Int32) (u : Nat → Nat → Int32) : Option ((Nat → Int32) × (Nat → Nat → Int32)) := (if x2 < 0 then (some (v, u)) else zix x2 48 (zix (v 23) 32 (rec (x2 + (-1)) (upd v 23 ((v 23) + 1)) (zau u 18 (v 23) (48 + ((u 17) x2.toNatClampNeg))))))
def m_M_takeCharacters_28  : Nat → Int32 → (Nat → Int32) → (Nat → Nat → Int32) → Option ((Nat → Int32) × (Nat → Nat → Int32))
  | 0 => fun _ _ _ => none
  | n + 1 => fun x2 v u => m_M_takeCharacters_28b  (m_M_takeCharacters_28  n) x2 v u
def m_M_takeCharacters (a0 : Int32) (v : Nat → Int32) (u : Nat → Nat → Int32)  : Option ((Nat → Int32) × (Nat → Nat → Int32)) := zix a0 9 ((if ((u 5) a0.toNatClampNeg) = 0 then (m_M_takeNumber a0 (upd v 23 0) u).bind (fun q8 => zix a0 9 (m_M_takeCharacters_28  64 (((q8.2 7) a0.toNatClampNeg) - 1) q8.1 q8.2)) else m_M_takeCharacters_69  64 a0 0 (upd v 23 0) u))
section
variable {p : Program} {l : Launch} {e : Env} {s : State} {m : MethodId} {args : Array Value} {below : List Frame} {meth : Method} {c : Code} {D : va_G} {w0 : va_W} {ad : Nat → Nat} {ca : Nat → ClassId}
set_option maxRecDepth 100000 in
set_option maxHeartbeats 4000000 in
theorem b_M_takeCharacters_69 (G : zG p s m args meth c cX6_takeCharacters RX6 3 none) (hK : va_K D vwCl (wM_t ca) s) (hX : zN (va_A w0 s.heap.size) s) {res : (Nat → Int32) × (Nat → Nat → Int32)} : ∀ n : Nat, ∀ (x1 : Int32) (x2 : Int32) (v : Nat → Int32) (u : Nat → Nat → Int32), m_M_takeCharacters_69  n x1 x2 v u = some res → zB p l e (zR 3 72) s m args below meth c D vwCl (va_A w0 s.heap.size) (MQ below (zQv D vwCl w0 (wM ad ca res.1 res.2) s.heap.size) args s 0 0 (va_A w0 s.heap.size)) 3 (wM ad ca v u) [(0, .ref (ad 0)), (1, .int x1), (2, .int x2)] 69 [] := by
  intro n
  induction n with
  | zero => intro x1 x2 v u hm; cases hm
  | succ n ih =>
  have hrec := ih
  intro x1 x2 v u hm H locs ls hP hD hS hl
  replace hm : m_M_takeCharacters_69b  (m_M_takeCharacters_69  n) x1 x2 v u = some res := hm
  generalize m_M_takeCharacters_69  n = rec at hm hrec
  unfold m_M_takeCharacters_69b at hm
  clear ih
  have G0 := G
  obtain ⟨hx, hb, hr, hml, hown, hw, hlk⟩ := G
  have hA : ∀ q, s.heap.size ≤ q → va_A w0 s.heap.size q := fun q h => Or.inr h
  refine lv_iload_n hx hb dX6_takeCharacters_69 rfl (lv_at hl 2 rfl) ?_
  refine lv_aload_n hx hb dX6_takeCharacters_70 rfl (lv_at hl 0 rfl) ?_
  refine va_get (D := D) (ci := 5) (v := .ref (ad 15)) (C := RX6) (T := TX6) (N := 24) hx hb hw zinX6 hown hK hP 0 rfl rfl 17 (by decide) (hw _ zw50) (fun _ h9 => h9) rfl dX6_takeCharacters_71 ?_
  refine lv_iload_n hx hb dX6_takeCharacters_74 rfl (lv_at hl 1 rfl) ?_
  obtain ⟨hi3, hm⟩ := zix_s hm
  refine va_iald (i := x1) (f := (u 15)) (n := 9) hx hb hK hP 15 14 rfl rfl hi3 dX6_takeCharacters_75 ?_
  refine lv_icmp_ge (tgt := 102) hx hb dX6_takeCharacters_76 rfl (fun cd4 => ?_) (fun cd4 => ?_)
  · replace hm := zt cd4 hm
    refine lv_aload_n hx hb dX6_takeCharacters_102 rfl (lv_at hl 0 rfl) ?_
    refine lv_aload_n hx hb dX6_takeCharacters_103 rfl (lv_at hl 0 rfl) ?_
    refine va_get (D := D) (ci := 5) (v := .ref (ad 15)) (C := RX6) (T := TX6) (N := 24) hx hb hw zinX6 hown hK hP 0 rfl rfl 17 (by decide) (hw _ zw50) (fun _ h9 => h9) rfl dX6_takeCharacters_104 ?_
    refine lv_iload_n hx hb dX6_takeCharacters_107 rfl (lv_at hl 1 rfl) ?_
    obtain ⟨hi5, hm⟩ := zix_s hm
    refine va_iald (i := x1) (f := (u 15)) (n := 9) hx hb hK hP 15 14 rfl rfl hi5 dX6_takeCharacters_108 ?_
    refine va_put (D := D) (ci := 5) (v := .int ((u 15) x1.toNatClampNeg)) (ty := .int) (C := RX6) (T := TX6) (N := 24) hx hb hw zinX6 tyX6 tyX6_ok nmX6 hown hK hP hD hS 0 rfl rfl 23 (by decide) (hw _ zw121) (fun _ h9 => h9) rfl (by decide +kernel) rfl rfl (Nat.le_of_ble_eq_true rfl) dX6_takeCharacters_109 (fun H locs hP hD hS => ?_)
    have hP : va_P D vwCl (wM ad ca (upd v 23 ((u 15) x1.toNatClampNeg)) u) H := hP
    have hD : va_D _ (wM ad ca (upd v 23 ((u 15) x1.toNatClampNeg)) u) := hD
    cases hm
    exact zretv hx hb hr hlk hP hD hS dX6_takeCharacters_112
  · replace hm := zf cd4 hm
    refine lv_aload_n hx hb dX6_takeCharacters_79 rfl (lv_at hl 0 rfl) ?_
    refine va_get (D := D) (ci := 5) (v := .ref (ad 18)) (C := RX6) (T := TX6) (N := 24) hx hb hw zinX6 hown hK hP 0 rfl rfl 22 (by decide) (hw _ zw116) (fun _ h9 => h9) rfl dX6_takeCharacters_80 ?_
    refine lv_iload_n hx hb dX6_takeCharacters_83 rfl (lv_at hl 2 rfl) ?_
    refine lv_aload_n hx hb dX6_takeCharacters_84 rfl (lv_at hl 0 rfl) ?_
    refine va_get (D := D) (ci := 5) (v := .ref (ad 16)) (C := RX6) (T := TX6) (N := 24) hx hb hw zinX6 hown hK hP 0 rfl rfl 18 (by decide) (hw _ zw114) (fun _ h9 => h9) rfl dX6_takeCharacters_85 ?_
    refine lv_bipush (v := 32) hx hb dX6_takeCharacters_88 (by decide) ?_
    refine lv_iload_n hx hb dX6_takeCharacters_90 rfl (lv_at hl 1 rfl) ?_
    refine lv_imul hx hb dX6_takeCharacters_91 ?_
    refine lv_iload_n hx hb dX6_takeCharacters_92 rfl (lv_at hl 2 rfl) ?_
    refine lv_iadd hx hb dX6_takeCharacters_93 ?_
    obtain ⟨hi6, hm⟩ := zix_s hm
    refine va_iald (i := ((32 * x1) + x2)) (f := (u 16)) (n := 256) hx hb hK hP 16 15 rfl rfl hi6 dX6_takeCharacters_94 ?_
    obtain ⟨hi7, hm⟩ := zix_s hm
    refine va_iast (i := x2) (x := ((u 16) ((32 * x1) + x2).toNatClampNeg)) (f := (u 18)) (n := 32) hx hb hK hP hD hS 18 17 rfl rfl hi7 dX6_takeCharacters_95 (fun H locs hP hD hS => ?_)
    have hP : va_P D vwCl (wM ad ca v (zau u 18 x2 ((u 16) ((32 * x1) + x2).toNatClampNeg))) H := hP
    have hD : va_D _ (wM ad ca v (zau u 18 x2 ((u 16) ((32 * x1) + x2).toNatClampNeg))) := hD
    refine lv_iinc (k := 2) (v := (x2 + 1)) (lv' := [(2, .int (x2 + 1)), (0, .ref (ad 0)), (1, .int x1)]) hx hb dX6_takeCharacters_96 hl rfl rfl (by decide) rfl (fun ls hl => ?_)
    refine lv_goto (tgt := 69) hx hb dX6_takeCharacters_99 rfl ?_
    exact hrec _ _ _ _ hm H _ _ hP hD hS (lv_sub hl [1, 2, 0] rfl)
set_option maxRecDepth 100000 in
set_option maxHeartbeats 4000000 in
theorem b_M_takeCharacters_28 (G : zG p s m args meth c cX6_takeCharacters RX6 3 none) (hK : va_K D vwCl (wM_t ca) s) (hX : zN (va_A w0 s.heap.size) s) {res : (Nat → Int32) × (Nat → Nat → Int32)} : ∀ n : Nat, ∀ (x2 : Int32) (v : Nat → Int32) (u : Nat → Nat → Int32), m_M_takeCharacters_28  n x2 v u = some res → zB p l e (zR 3 72) s m args below meth c D vwCl (va_A w0 s.heap.size) (MQ below (zQv D vwCl w0 (wM ad ca res.1 res.2) s.heap.size) args s 0 0 (va_A w0 s.heap.size)) 3 (wM ad ca v u) [(0, .ref (ad 0)), (2, .int x2)] 28 [] := by
  intro n
  induction n with
  | zero => intro x2 v u hm; cases hm
  | succ n ih =>
  have hrec := ih
  intro x2 v u hm H locs ls hP hD hS hl
  replace hm : m_M_takeCharacters_28b  (m_M_takeCharacters_28  n) x2 v u = some res := hm
  generalize m_M_takeCharacters_28  n = rec at hm hrec
  unfold m_M_takeCharacters_28b at hm
  clear ih
  have G0 := G
  obtain ⟨hx, hb, hr, hml, hown, hw, hlk⟩ := G
  have hA : ∀ q, s.heap.size ≤ q → va_A w0 s.heap.size q := fun q h => Or.inr h
  refine lv_iload_n hx hb dX6_takeCharacters_28 rfl (lv_at hl 1 rfl) ?_
  refine lv_if_lt (tgt := 66) hx hb dX6_takeCharacters_29 rfl (fun cd10 => ?_) (fun cd10 => ?_)
  · replace hm := zt cd10 hm
    cases hm
    exact zretv hx hb hr hlk hP hD hS dX6_takeCharacters_66
  · replace hm := zf cd10 hm
    refine lv_aload_n hx hb dX6_takeCharacters_32 rfl (lv_at hl 0 rfl) ?_
    refine va_get (D := D) (ci := 5) (v := .ref (ad 18)) (C := RX6) (T := TX6) (N := 24) hx hb hw zinX6 hown hK hP 0 rfl rfl 22 (by decide) (hw _ zw116) (fun _ h9 => h9) rfl dX6_takeCharacters_33 ?_
    refine lv_aload_n hx hb dX6_takeCharacters_36 rfl (lv_at hl 0 rfl) ?_
    refine va_get (D := D) (ci := 5) (v := .int (v 23)) (C := RX6) (T := TX6) (N := 24) hx hb hw zinX6 hown hK hP 0 rfl rfl 23 (by decide) (hw _ zw121) (fun _ h9 => h9) rfl dX6_takeCharacters_37 ?_
    refine lv_bipush (v := 48) hx hb dX6_takeCharacters_40 (by decide) ?_
    refine lv_aload_n hx hb dX6_takeCharacters_42 rfl (lv_at hl 0 rfl) ?_
    refine va_get (D := D) (ci := 5) (v := .ref (ad 17)) (C := RX6) (T := TX6) (N := 24) hx hb hw zinX6 hown hK hP 0 rfl rfl 19 (by decide) (hw _ zw20) (fun _ h9 => h9) rfl dX6_takeCharacters_43 ?_
    refine lv_iload_n hx hb dX6_takeCharacters_46 rfl (lv_at hl 1 rfl) ?_
    obtain ⟨hi11, hm⟩ := zix_s hm
    refine va_iald (i := x2) (f := (u 17)) (n := 48) hx hb hK hP 17 16 rfl rfl hi11 dX6_takeCharacters_47 ?_
    refine lv_iadd hx hb dX6_takeCharacters_48 ?_
    obtain ⟨hi12, hm⟩ := zix_s hm
    refine va_iast (i := (v 23)) (x := (48 + ((u 17) x2.toNatClampNeg))) (f := (u 18)) (n := 32) hx hb hK hP hD hS 18 17 rfl rfl hi12 dX6_takeCharacters_49 (fun H locs hP hD hS => ?_)
    have hP : va_P D vwCl (wM ad ca v (zau u 18 (v 23) (48 + ((u 17) x2.toNatClampNeg)))) H := hP
    have hD : va_D _ (wM ad ca v (zau u 18 (v 23) (48 + ((u 17) x2.toNatClampNeg)))) := hD
    refine lv_aload_n hx hb dX6_takeCharacters_50 rfl (lv_at hl 0 rfl) ?_
    refine lv_dup hx hb dX6_takeCharacters_51 rfl ?_
    refine va_get (D := D) (ci := 5) (v := .int (v 23)) (C := RX6) (T := TX6) (N := 24) hx hb hw zinX6 hown hK hP 0 rfl rfl 23 (by decide) (hw _ zw121) (fun _ h9 => h9) rfl dX6_takeCharacters_52 ?_
    refine lv_iconst (v := 1) hx hb dX6_takeCharacters_55 (by decide) ?_
    refine lv_iadd hx hb dX6_takeCharacters_56 ?_
    refine va_put (D := D) (ci := 5) (v := .int ((v 23) + 1)) (ty := .int) (C := RX6) (T := TX6) (N := 24) hx hb hw zinX6 tyX6 tyX6_ok nmX6 hown hK hP hD hS 0 rfl rfl 23 (by decide) (hw _ zw121) (fun _ h9 => h9) rfl (by decide +kernel) rfl rfl (Nat.le_of_ble_eq_true rfl) dX6_takeCharacters_57 (fun H locs hP hD hS => ?_)
    have hP : va_P D vwCl (wM ad ca (upd v 23 ((v 23) + 1)) (zau u 18 (v 23) (48 + ((u 17) x2.toNatClampNeg)))) H := hP
    have hD : va_D _ (wM ad ca (upd v 23 ((v 23) + 1)) (zau u 18 (v 23) (48 + ((u 17) x2.toNatClampNeg)))) := hD
    refine lv_iinc (k := 1) (v := (x2 + (-1))) (lv' := [(2, .int (x2 + (-1))), (0, .ref (ad 0))]) hx hb dX6_takeCharacters_60 hl rfl rfl (by decide) rfl (fun ls hl => ?_)
    refine lv_goto (tgt := 28) hx hb dX6_takeCharacters_63 rfl ?_
    exact hrec _ _ _ hm H _ _ hP hD hS (lv_sub hl [1, 0] rfl)
end
set_option maxRecDepth 100000 in
set_option maxHeartbeats 4000000 in
theorem k_M_takeCharacters (l : Launch) (D : va_G) (ad : Nat → Nat) (ca : Nat → ClassId) (sz : Nat) (a0 : Int32) (v : Nat → Int32) (u : Nat → Nat → Int32) (res : (Nat → Int32) × (Nat → Nat → Int32)) (hm : m_M_takeCharacters a0 v u  = some res) : Met l yX6_takeCharacters (Cond.code yX6_takeCharacters cX6_takeCharacters 3 none :: zBIG) (zR 3 72) (va_Pc [.ref (ad 0), .int a0] (zP zN D vwCl (wM_t ca) (wM ad ca v u) sz)) (zQv D vwCl (wM ad ca v u) (wM ad ca res.1 res.2) sz) 0 0 (va_A (wM ad ca v u) sz) := by
  refine zEnter RX6 [.ref (ad 0), .int a0] (by decide) rfl (Nat.le_of_ble_eq_true rfl) (fun p e s m below meth c ls G hK hX hP hD hsz hl => ?_)
  subst hsz
  unfold m_M_takeCharacters at hm
  have hl : lv_has ls 3 [(0, .ref (ad 0)), (1, .int a0)] := hl
  have hS : va_S (va_A (wM ad ca v u) s.heap.size) s.heap s.heap [] := va_S.rf
  have hA : ∀ q, s.heap.size ≤ q → va_A (wM ad ca v u) s.heap.size q := fun q h => Or.inr h
  have G0 := G
  obtain ⟨hx, hb, hr, hml, hown, hw, hlk⟩ := G
  refine lv_aload_n hx hb dX6_takeCharacters_0 rfl (lv_at hl 0 rfl) ?_
  refine lv_iconst (v := 0) hx hb dX6_takeCharacters_1 (by decide) ?_
  refine va_put (D := D) (ci := 5) (v := .int 0) (ty := .int) (C := RX6) (T := TX6) (N := 24) hx hb hw zinX6 tyX6 tyX6_ok nmX6 hown hK hP hD hS 0 rfl rfl 23 (by decide) (hw _ zw121) (fun _ h9 => h9) rfl (by decide +kernel) rfl rfl (Nat.le_of_ble_eq_true rfl) dX6_takeCharacters_2 (fun H locs hP hD hS => ?_)
  have hP : va_P D vwCl (wM ad ca (upd v 23 0) u) H := hP
  have hD : va_D _ (wM ad ca (upd v 23 0) u) := hD
  refine lv_aload_n hx hb dX6_takeCharacters_5 rfl (lv_at hl 0 rfl) ?_
  refine va_get (D := D) (ci := 5) (v := .ref (ad 5)) (C := RX6) (T := TX6) (N := 24) hx hb hw zinX6 hown hK hP 0 rfl rfl 7 (by decide) (hw _ zw46) (fun _ h9 => h9) rfl dX6_takeCharacters_6 ?_
  refine lv_iload_n hx hb dX6_takeCharacters_9 rfl (lv_at hl 1 rfl) ?_
  obtain ⟨hi1, hm⟩ := zix_s hm
  refine va_iald (i := a0) (f := (u 5)) (n := 9) hx hb hK hP 5 4 rfl rfl hi1 dX6_takeCharacters_10 ?_
  refine lv_if_ne (tgt := 67) hx hb dX6_takeCharacters_11 rfl (fun cd2 => ?_) (fun cd2 => ?_)
  · replace hm := zf cd2 hm
    refine lv_iconst (v := 0) hx hb dX6_takeCharacters_67 (by decide) ?_
    refine lv_istore_n (lv' := [(2, .int 0), (0, .ref (ad 0)), (1, .int a0)]) hx hb dX6_takeCharacters_68 rfl hl (by decide) rfl (fun ls hl => ?_)
    exact b_M_takeCharacters_69 G0 hK hX 64 _ _ _ _ hm _ _ _ hP hD hS (lv_sub hl [1, 2, 0] rfl)
  · replace hm := zt cd2 hm
    refine lv_aload_n hx hb dX6_takeCharacters_14 rfl (lv_at hl 0 rfl) ?_
    refine lv_iload_n hx hb dX6_takeCharacters_15 rfl (lv_at hl 1 rfl) ?_
    obtain ⟨q8, hq8, hm⟩ := zbind hm
    refine zbWv (va_runV (As := [.int a0]) (rest := []) ⟨hx, hb, hml, hown, hw⟩ (k_M_takeNumber l D ad ca _ a0 (upd v 23 0) u  q8 hq8) (zcV (C := RX6) 1 hw (zgood zw159) rfl rfl rfl zw7 zw161 zw160 zw162 hdX6_takeNumber ⟨Nat.le_of_ble_eq_true rfl, Nat.le_of_ble_eq_true rfl⟩) (zpreV (zpre zN_ok trivial hS (zfree hD hS hA) hP hK hD) (va_recv hK hP rfl (q0 := 0) rfl)) rfl rfl hl.1 rfl (lv_room (Nat.le_of_ble_eq_true rfl)) dX6_takeCharacters_16 ⟨Nat.zero_le _, Nat.zero_le _⟩) hS (zfree hD hS hA) (fun H locs hP hD hS => ?_)
    have hP : va_P D vwCl (wM ad ca q8.1 q8.2) H := hP
    have hD : va_D _ (wM ad ca q8.1 q8.2) := hD
    refine lv_aload_n hx hb dX6_takeCharacters_19 rfl (lv_at hl 0 rfl) ?_
    refine va_get (D := D) (ci := 5) (v := .ref (ad 7)) (C := RX6) (T := TX6) (N := 24) hx hb hw zinX6 hown hK hP 0 rfl rfl 9 (by decide) (hw _ zw49) (fun _ h9 => h9) rfl dX6_takeCharacters_20 ?_
    refine lv_iload_n hx hb dX6_takeCharacters_23 rfl (lv_at hl 1 rfl) ?_
    obtain ⟨hi9, hm⟩ := zix_s hm
    refine va_iald (i := a0) (f := (q8.2 7)) (n := 9) hx hb hK hP 7 6 rfl rfl hi9 dX6_takeCharacters_24 ?_
    refine lv_iconst (v := 1) hx hb dX6_takeCharacters_25 (by decide) ?_
    refine lv_isub hx hb dX6_takeCharacters_26 ?_
    refine lv_istore_n (lv' := [(2, .int (((q8.2 7) a0.toNatClampNeg) - 1)), (0, .ref (ad 0)), (1, .int a0)]) hx hb dX6_takeCharacters_27 rfl hl (by decide) rfl (fun ls hl => ?_)
    exact b_M_takeCharacters_28 G0 hK hX 64 _ _ _ hm _ _ _ hP hD hS (lv_sub hl [1, 0] rfl)

theorem dX6_move_0 : decode cX6_move 0 = .ok (.aload_n 0, 1) := by decide +kernel
theorem dX6_move_1 : decode cX6_move 1 = .ok (.iload_n 1, 1) := by decide +kernel
theorem dX6_move_2 : decode cX6_move 2 = .ok (.invokevirtual 155, 3) := by decide +kernel
theorem dX6_move_5 : decode cX6_move 5 = .ok (.ifCond .eq 11, 3) := by decide +kernel
theorem dX6_move_8 : decode cX6_move 8 = .ok (.aload_n 0, 1) := by decide +kernel
theorem dX6_move_9 : decode cX6_move 9 = .ok (.iload_n 2, 1) := by decide +kernel
theorem dX6_move_10 : decode cX6_move 10 = .ok (.invokevirtual 155, 3) := by decide +kernel
theorem dX6_move_13 : decode cX6_move 13 = .ok (.ifCond .ne 7, 3) := by decide +kernel
theorem dX6_move_16 : decode cX6_move 16 = .ok (.iconst 1, 1) := by decide +kernel
theorem dX6_move_17 : decode cX6_move 17 = .ok (.goto 4, 3) := by decide +kernel
theorem dX6_move_20 : decode cX6_move 20 = .ok (.iconst 0, 1) := by decide +kernel
theorem dX6_move_21 : decode cX6_move 21 = .ok (.istore_n 3, 1) := by decide +kernel
theorem dX6_move_22 : decode cX6_move 22 = .ok (.aload_n 0, 1) := by decide +kernel
theorem dX6_move_23 : decode cX6_move 23 = .ok (.iload_n 3, 1) := by decide +kernel
theorem dX6_move_24 : decode cX6_move 24 = .ok (.iload_n 3, 1) := by decide +kernel
theorem dX6_move_25 : decode cX6_move 25 = .ok (.ifCond .ne 35, 3) := by decide +kernel
theorem dX6_move_28 : decode cX6_move 28 = .ok (.aload_n 0, 1) := by decide +kernel
theorem dX6_move_29 : decode cX6_move 29 = .ok (.getfield 22, 3) := by decide +kernel
theorem dX6_move_32 : decode cX6_move 32 = .ok (.iload_n 2, 1) := by decide +kernel
theorem dX6_move_33 : decode cX6_move 33 = .ok (.iaload, 1) := by decide +kernel
theorem dX6_move_34 : decode cX6_move 34 = .ok (.iconst 1, 1) := by decide +kernel
theorem dX6_move_35 : decode cX6_move 35 = .ok (.if_icmp .ne 25, 3) := by decide +kernel
theorem dX6_move_38 : decode cX6_move 38 = .ok (.aload_n 0, 1) := by decide +kernel
theorem dX6_move_39 : decode cX6_move 39 = .ok (.getfield 22, 3) := by decide +kernel
theorem dX6_move_42 : decode cX6_move 42 = .ok (.iload_n 1, 1) := by decide +kernel
theorem dX6_move_43 : decode cX6_move 43 = .ok (.iaload, 1) := by decide +kernel
theorem dX6_move_44 : decode cX6_move 44 = .ok (.ifCond .ne 16, 3) := by decide +kernel
theorem dX6_move_47 : decode cX6_move 47 = .ok (.aload_n 0, 1) := by decide +kernel
theorem dX6_move_48 : decode cX6_move 48 = .ok (.getfield 31, 3) := by decide +kernel
theorem dX6_move_51 : decode cX6_move 51 = .ok (.iload_n 1, 1) := by decide +kernel
theorem dX6_move_52 : decode cX6_move 52 = .ok (.iaload, 1) := by decide +kernel
theorem dX6_move_53 : decode cX6_move 53 = .ok (.ifCond .le 7, 3) := by decide +kernel
theorem dX6_move_56 : decode cX6_move 56 = .ok (.iconst 1, 1) := by decide +kernel
theorem dX6_move_57 : decode cX6_move 57 = .ok (.goto 4, 3) := by decide +kernel
theorem dX6_move_60 : decode cX6_move 60 = .ok (.iconst 0, 1) := by decide +kernel
theorem dX6_move_61 : decode cX6_move 61 = .ok (.iconst 0, 1) := by decide +kernel
theorem dX6_move_62 : decode cX6_move 62 = .ok (.invokevirtual 135, 3) := by decide +kernel
theorem dX6_move_65 : decode cX6_move 65 = .ok (.ifCond .eq 4, 3) := by decide +kernel
theorem dX6_move_68 : decode cX6_move 68 = .ok (.return_, 1) := by decide +kernel
theorem dX6_move_69 : decode cX6_move 69 = .ok (.aload_n 0, 1) := by decide +kernel
theorem dX6_move_70 : decode cX6_move 70 = .ok (.getfield 22, 3) := by decide +kernel
theorem dX6_move_73 : decode cX6_move 73 = .ok (.iload_n 2, 1) := by decide +kernel
theorem dX6_move_74 : decode cX6_move 74 = .ok (.iaload, 1) := by decide +kernel
theorem dX6_move_75 : decode cX6_move 75 = .ok (.iconst 1, 1) := by decide +kernel
theorem dX6_move_76 : decode cX6_move 76 = .ok (.if_icmp .ne 16, 3) := by decide +kernel
theorem dX6_move_79 : decode cX6_move 79 = .ok (.aload_n 0, 1) := by decide +kernel
theorem dX6_move_80 : decode cX6_move 80 = .ok (.iload_n 1, 1) := by decide +kernel
theorem dX6_move_81 : decode cX6_move 81 = .ok (.invokevirtual 205, 3) := by decide +kernel
theorem dX6_move_84 : decode cX6_move 84 = .ok (.aload_n 0, 1) := by decide +kernel
theorem dX6_move_85 : decode cX6_move 85 = .ok (.iload_n 2, 1) := by decide +kernel
theorem dX6_move_86 : decode cX6_move 86 = .ok (.invokevirtual 148, 3) := by decide +kernel
theorem dX6_move_89 : decode cX6_move 89 = .ok (.goto 13, 3) := by decide +kernel
theorem dX6_move_92 : decode cX6_move 92 = .ok (.aload_n 0, 1) := by decide +kernel
theorem dX6_move_93 : decode cX6_move 93 = .ok (.iload_n 1, 1) := by decide +kernel
theorem dX6_move_94 : decode cX6_move 94 = .ok (.invokevirtual 202, 3) := by decide +kernel
theorem dX6_move_97 : decode cX6_move 97 = .ok (.aload_n 0, 1) := by decide +kernel
theorem dX6_move_98 : decode cX6_move 98 = .ok (.iload_n 2, 1) := by decide +kernel
theorem dX6_move_99 : decode cX6_move 99 = .ok (.invokevirtual 152, 3) := by decide +kernel
theorem dX6_move_102 : decode cX6_move 102 = .ok (.return_, 1) := by decide +kernel
def m_M_move_61  (x1 : Int32) (x2 : Int32) (t0 : Int32) (t1 : Int32) (v : Nat → Int32) (u : Nat → Nat → Int32) : Option ((Nat → Int32) × (Nat → Nat → Int32)) := (m_M_fails t1 t0 0 v u).bind (fun q4 => (if q4.1 = 0 then zix x2 9 ((if ((u 5) x2.toNatClampNeg) = 1 then (m_M_takeCharacters x1 q4.2 u).bind (fun q10 => (m_M_storeText x2 q10.1 q10.2).bind (fun q11 => (some (q10.1, q11)))) else (m_M_takeNumber x1 q4.2 u).bind (fun q8 => (m_M_storeNumber x2 q8.1 q8.2).bind (fun q9 => (some (q8.1, q9)))))) else (some (q4.2, u))))
def m_M_move_60  (x1 : Int32) (x2 : Int32) (t0 : Int32) (v : Nat → Int32) (u : Nat → Nat → Int32) : Option ((Nat → Int32) × (Nat → Nat → Int32)) := m_M_move_61  x1 x2 0 t0 v u
def m_M_move_21  (x1 : Int32) (x2 : Int32) (t0 : Int32) (v : Nat → Int32) (u : Nat → Nat → Int32) : Option ((Nat → Int32) × (Nat → Nat → Int32)) := (if t0 = 0 then zix x2 9 ((if ((u 5) x2.toNatClampNeg) = 1 then zix x1 9 ((if ((u 5) x1.toNatClampNeg) = 0 then zix x1 9 ((if ((u 8) x1.toNatClampNeg) ≤ 0 then m_M_move_60  x1 x2 t0 v u else m_M_move_61  x1 x2 1 t0 v u)) else m_M_move_60  x1 x2 t0 v u)) else m_M_move_60  x1 x2 t0 v u)) else m_M_move_60  x1 x2 t0 v u)
def m_M_move_16  (x1 : Int32) (x2 : Int32) (v : Nat → Int32) (u : Nat → Nat → Int32) : Option ((Nat → Int32) × (Nat → Nat → Int32)) := m_M_move_21  x1 x2 1 v u
def m_M_move (a0 : Int32) (a1 : Int32) (v : Nat → Int32) (u : Nat → Nat → Int32)  : Option ((Nat → Int32) × (Nat → Nat → Int32)) := (m_M_isField a0 v u).bind (fun q1 => (if q1 = 0 then m_M_move_16  a0 a1 v u else (m_M_isField a1 v u).bind (fun q18 => (if q18 = 0 then m_M_move_16  a0 a1 v u else m_M_move_21  a0 a1 0 v u))))
section
variable {p : Program} {l : Launch} {e : Env} {s : State} {m : MethodId} {args : Array Value} {below : List Frame} {meth : Method} {c : Code} {D : va_G} {w0 : va_W} {ad : Nat → Nat} {ca : Nat → ClassId}
set_option maxRecDepth 100000 in
set_option maxHeartbeats 4000000 in
theorem b_M_move_61 (G : zG p s m args meth c cX6_move RX6 4 none) (hK : va_K D vwCl (wM_t ca) s) (hX : zN (va_A w0 s.heap.size) s) {res : (Nat → Int32) × (Nat → Nat → Int32)} : ∀ (x1 : Int32) (x2 : Int32) (t0 : Int32) (t1 : Int32) (v : Nat → Int32) (u : Nat → Nat → Int32), m_M_move_61  x1 x2 t0 t1 v u = some res → zB p l e (zR 5 127) s m args below meth c D vwCl (va_A w0 s.heap.size) (MQ below (zQv D vwCl w0 (wM ad ca res.1 res.2) s.heap.size) args s 0 0 (va_A w0 s.heap.size)) 4 (wM ad ca v u) [(0, .ref (ad 0)), (1, .int x1), (2, .int x2)] 61 [.int t0, .int t1, .ref (ad 0)] := by
  intro x1 x2 t0 t1 v u hm H locs ls hP hD hS hl
  unfold m_M_move_61 at hm
  have G0 := G
  obtain ⟨hx, hb, hr, hml, hown, hw, hlk⟩ := G
  have hA : ∀ q, s.heap.size ≤ q → va_A w0 s.heap.size q := fun q h => Or.inr h
  refine lv_iconst (v := 0) hx hb dX6_move_61 (by decide) ?_
  obtain ⟨q4, hq4, hm⟩ := zbind hm
  refine zbWi (va_runV (As := [.int t1, .int t0, .int 0]) (rest := []) ⟨hx, hb, hml, hown, hw⟩ (k_M_fails l D ad ca _ t1 t0 0 v u  q4 hq4) (zcV (C := RX6) 3 hw (zgood zw122) rfl rfl rfl zw7 zw124 zw123 zw125 hdX6_fails ⟨Nat.le_of_ble_eq_true rfl, Nat.le_of_ble_eq_true rfl⟩) (zpreV (zpre zN_ok trivial hS (zfree hD hS hA) hP hK hD) (va_recv hK hP rfl (q0 := 0) rfl)) rfl rfl hl.1 rfl (lv_room (Nat.le_of_ble_eq_true rfl)) dX6_move_62 ⟨Nat.zero_le _, Nat.zero_le _⟩) hS (zfree hD hS hA) (fun H locs hP hD hS => ?_)
  have hP : va_P D vwCl (wM ad ca q4.2 u) H := hP
  have hD : va_D _ (wM ad ca q4.2 u) := hD
  refine lv_if_eq (tgt := 69) hx hb dX6_move_65 rfl (fun cd5 => ?_) (fun cd5 => ?_)
  · replace hm := zt cd5 hm
    refine lv_aload_n hx hb dX6_move_69 rfl (lv_at hl 0 rfl) ?_
    refine va_get (D := D) (ci := 5) (v := .ref (ad 5)) (C := RX6) (T := TX6) (N := 24) hx hb hw zinX6 hown hK hP 0 rfl rfl 7 (by decide) (hw _ zw46) (fun _ h9 => h9) rfl dX6_move_70 ?_
    refine lv_iload_n hx hb dX6_move_73 rfl (lv_at hl 2 rfl) ?_
    obtain ⟨hi6, hm⟩ := zix_s hm
    refine va_iald (i := x2) (f := (u 5)) (n := 9) hx hb hK hP 5 4 rfl rfl hi6 dX6_move_74 ?_
    refine lv_iconst (v := 1) hx hb dX6_move_75 (by decide) ?_
    refine lv_icmp_ne (tgt := 92) hx hb dX6_move_76 rfl (fun cd7 => ?_) (fun cd7 => ?_)
    · replace hm := zf cd7 hm
      refine lv_aload_n hx hb dX6_move_92 rfl (lv_at hl 0 rfl) ?_
      refine lv_iload_n hx hb dX6_move_93 rfl (lv_at hl 1 rfl) ?_
      obtain ⟨q8, hq8, hm⟩ := zbind hm
      refine zbWv (va_runV (As := [.int x1]) (rest := []) ⟨hx, hb, hml, hown, hw⟩ (k_M_takeNumber l D ad ca _ x1 q4.2 u  q8 hq8) (zcV (C := RX6) 1 hw (zgood zw159) rfl rfl rfl zw7 zw161 zw160 zw162 hdX6_takeNumber ⟨Nat.le_of_ble_eq_true rfl, Nat.le_of_ble_eq_true rfl⟩) (zpreV (zpre zN_ok trivial hS (zfree hD hS hA) hP hK hD) (va_recv hK hP rfl (q0 := 0) rfl)) rfl rfl hl.1 rfl (lv_room (Nat.le_of_ble_eq_true rfl)) dX6_move_94 ⟨Nat.zero_le _, Nat.zero_le _⟩) hS (zfree hD hS hA) (fun H locs hP hD hS => ?_)
      have hP : va_P D vwCl (wM ad ca q8.1 q8.2) H := hP
      have hD : va_D _ (wM ad ca q8.1 q8.2) := hD
      refine lv_aload_n hx hb dX6_move_97 rfl (lv_at hl 0 rfl) ?_
      refine lv_iload_n hx hb dX6_move_98 rfl (lv_at hl 2 rfl) ?_
      obtain ⟨q9, hq9, hm⟩ := zbind hm
      refine zbWv (va_runV (As := [.int x2]) (rest := []) ⟨hx, hb, hml, hown, hw⟩ (k_M_storeNumber l D ad ca _ x2 q8.1 q8.2  q9 hq9) (zcV (C := RX6) 1 hw (zgood zw134) rfl rfl rfl zw7 zw136 zw135 zw137 hdX6_storeNumber ⟨Nat.le_of_ble_eq_true rfl, Nat.le_of_ble_eq_true rfl⟩) (zpreV (zpre zN_ok trivial hS (zfree hD hS hA) hP hK hD) (va_recv hK hP rfl (q0 := 0) rfl)) rfl rfl hl.1 rfl (lv_room (Nat.le_of_ble_eq_true rfl)) dX6_move_99 ⟨Nat.zero_le _, Nat.zero_le _⟩) hS (zfree hD hS hA) (fun H locs hP hD hS => ?_)
      have hP : va_P D vwCl (wM ad ca q8.1 q9) H := hP
      have hD : va_D _ (wM ad ca q8.1 q9) := hD
      cases hm
      exact zretv hx hb hr hlk hP hD hS dX6_move_102
    · replace hm := zt cd7 hm
      refine lv_aload_n hx hb dX6_move_79 rfl (lv_at hl 0 rfl) ?_
      refine lv_iload_n hx hb dX6_move_80 rfl (lv_at hl 1 rfl) ?_
      obtain ⟨q10, hq10, hm⟩ := zbind hm
      refine zbWv (va_runV (As := [.int x1]) (rest := []) ⟨hx, hb, hml, hown, hw⟩ (k_M_takeCharacters l D ad ca _ x1 q4.2 u  q10 hq10) (zcV (C := RX6) 1 hw (zgood zw163) rfl rfl rfl zw7 zw165 zw164 zw166 hdX6_takeCharacters ⟨Nat.le_of_ble_eq_true rfl, Nat.le_of_ble_eq_true rfl⟩) (zpreV (zpre zN_ok trivial hS (zfree hD hS hA) hP hK hD) (va_recv hK hP rfl (q0 := 0) rfl)) rfl rfl hl.1 rfl (lv_room (Nat.le_of_ble_eq_true rfl)) dX6_move_81 ⟨Nat.zero_le _, Nat.zero_le _⟩) hS (zfree hD hS hA) (fun H locs hP hD hS => ?_)
      have hP : va_P D vwCl (wM ad ca q10.1 q10.2) H := hP
      have hD : va_D _ (wM ad ca q10.1 q10.2) := hD
      refine lv_aload_n hx hb dX6_move_84 rfl (lv_at hl 0 rfl) ?_
      refine lv_iload_n hx hb dX6_move_85 rfl (lv_at hl 2 rfl) ?_
      obtain ⟨q11, hq11, hm⟩ := zbind hm
      refine zbWv (va_runV (As := [.int x2]) (rest := []) ⟨hx, hb, hml, hown, hw⟩ (k_M_storeText l D ad ca _ x2 q10.1 q10.2  q11 hq11) (zcV (C := RX6) 1 hw (zgood zw138) rfl rfl rfl zw7 zw140 zw139 zw141 hdX6_storeText ⟨Nat.le_of_ble_eq_true rfl, Nat.le_of_ble_eq_true rfl⟩) (zpreV (zpre zN_ok trivial hS (zfree hD hS hA) hP hK hD) (va_recv hK hP rfl (q0 := 0) rfl)) rfl rfl hl.1 rfl (lv_room (Nat.le_of_ble_eq_true rfl)) dX6_move_86 ⟨Nat.zero_le _, Nat.zero_le _⟩) hS (zfree hD hS hA) (fun H locs hP hD hS => ?_)
      have hP : va_P D vwCl (wM ad ca q10.1 q11) H := hP
      have hD : va_D _ (wM ad ca q10.1 q11) := hD
      refine lv_goto (tgt := 102) hx hb dX6_move_89 rfl ?_
      cases hm
      exact zretv hx hb hr hlk hP hD hS dX6_move_102
  · replace hm := zf cd5 hm
    cases hm
    exact zretv hx hb hr hlk hP hD hS dX6_move_68
set_option maxRecDepth 100000 in
set_option maxHeartbeats 4000000 in
theorem b_M_move_60 (G : zG p s m args meth c cX6_move RX6 4 none) (hK : va_K D vwCl (wM_t ca) s) (hX : zN (va_A w0 s.heap.size) s) {res : (Nat → Int32) × (Nat → Nat → Int32)} : ∀ (x1 : Int32) (x2 : Int32) (t0 : Int32) (v : Nat → Int32) (u : Nat → Nat → Int32), m_M_move_60  x1 x2 t0 v u = some res → zB p l e (zR 5 127) s m args below meth c D vwCl (va_A w0 s.heap.size) (MQ below (zQv D vwCl w0 (wM ad ca res.1 res.2) s.heap.size) args s 0 0 (va_A w0 s.heap.size)) 4 (wM ad ca v u) [(0, .ref (ad 0)), (1, .int x1), (2, .int x2)] 60 [.int t0, .ref (ad 0)] := by
  intro x1 x2 t0 v u hm H locs ls hP hD hS hl
  unfold m_M_move_60 at hm
  have G0 := G
  obtain ⟨hx, hb, hr, hml, hown, hw, hlk⟩ := G
  have hA : ∀ q, s.heap.size ≤ q → va_A w0 s.heap.size q := fun q h => Or.inr h
  refine lv_iconst (v := 0) hx hb dX6_move_60 (by decide) ?_
  exact b_M_move_61 G0 hK hX _ _ _ _ _ _ hm H _ _ hP hD hS hl
set_option maxRecDepth 100000 in
set_option maxHeartbeats 4000000 in
theorem b_M_move_21 (G : zG p s m args meth c cX6_move RX6 4 none) (hK : va_K D vwCl (wM_t ca) s) (hX : zN (va_A w0 s.heap.size) s) {res : (Nat → Int32) × (Nat → Nat → Int32)} : ∀ (x1 : Int32) (x2 : Int32) (t0 : Int32) (v : Nat → Int32) (u : Nat → Nat → Int32), m_M_move_21  x1 x2 t0 v u = some res → zB p l e (zR 5 127) s m args below meth c D vwCl (va_A w0 s.heap.size) (MQ below (zQv D vwCl w0 (wM ad ca res.1 res.2) s.heap.size) args s 0 0 (va_A w0 s.heap.size)) 4 (wM ad ca v u) [(0, .ref (ad 0)), (1, .int x1), (2, .int x2)] 21 [.int t0] := by
  intro x1 x2 t0 v u hm H locs ls hP hD hS hl
  unfold m_M_move_21 at hm
  have G0 := G
  obtain ⟨hx, hb, hr, hml, hown, hw, hlk⟩ := G
  have hA : ∀ q, s.heap.size ≤ q → va_A w0 s.heap.size q := fun q h => Or.inr h
  refine lv_istore_n (lv' := [(3, .int t0), (0, .ref (ad 0)), (1, .int x1), (2, .int x2)]) hx hb dX6_move_21 rfl hl (by decide) rfl (fun ls hl => ?_)
  refine lv_aload_n hx hb dX6_move_22 rfl (lv_at hl 1 rfl) ?_
  refine lv_iload_n hx hb dX6_move_23 rfl (lv_at hl 0 rfl) ?_
  refine lv_iload_n hx hb dX6_move_24 rfl (lv_at hl 0 rfl) ?_
  refine lv_if_ne (tgt := 60) hx hb dX6_move_25 rfl (fun cd3 => ?_) (fun cd3 => ?_)
  · replace hm := zf cd3 hm
    exact b_M_move_60 G0 hK hX _ _ _ _ _ hm H _ _ hP hD hS (lv_sub hl [1, 2, 3] rfl)
  · replace hm := zt cd3 hm
    refine lv_aload_n hx hb dX6_move_28 rfl (lv_at hl 1 rfl) ?_
    refine va_get (D := D) (ci := 5) (v := .ref (ad 5)) (C := RX6) (T := TX6) (N := 24) hx hb hw zinX6 hown hK hP 0 rfl rfl 7 (by decide) (hw _ zw46) (fun _ h9 => h9) rfl dX6_move_29 ?_
    refine lv_iload_n hx hb dX6_move_32 rfl (lv_at hl 3 rfl) ?_
    obtain ⟨hi12, hm⟩ := zix_s hm
    refine va_iald (i := x2) (f := (u 5)) (n := 9) hx hb hK hP 5 4 rfl rfl hi12 dX6_move_33 ?_
    refine lv_iconst (v := 1) hx hb dX6_move_34 (by decide) ?_
    refine lv_icmp_ne (tgt := 60) hx hb dX6_move_35 rfl (fun cd13 => ?_) (fun cd13 => ?_)
    · replace hm := zf cd13 hm
      exact b_M_move_60 G0 hK hX _ _ _ _ _ hm H _ _ hP hD hS (lv_sub hl [1, 2, 3] rfl)
    · replace hm := zt cd13 hm
      refine lv_aload_n hx hb dX6_move_38 rfl (lv_at hl 1 rfl) ?_
      refine va_get (D := D) (ci := 5) (v := .ref (ad 5)) (C := RX6) (T := TX6) (N := 24) hx hb hw zinX6 hown hK hP 0 rfl rfl 7 (by decide) (hw _ zw46) (fun _ h9 => h9) rfl dX6_move_39 ?_
      refine lv_iload_n hx hb dX6_move_42 rfl (lv_at hl 2 rfl) ?_
      obtain ⟨hi14, hm⟩ := zix_s hm
      refine va_iald (i := x1) (f := (u 5)) (n := 9) hx hb hK hP 5 4 rfl rfl hi14 dX6_move_43 ?_
      refine lv_if_ne (tgt := 60) hx hb dX6_move_44 rfl (fun cd15 => ?_) (fun cd15 => ?_)
      · replace hm := zf cd15 hm
        exact b_M_move_60 G0 hK hX _ _ _ _ _ hm H _ _ hP hD hS (lv_sub hl [1, 2, 3] rfl)
      · replace hm := zt cd15 hm
        refine lv_aload_n hx hb dX6_move_47 rfl (lv_at hl 1 rfl) ?_
        refine va_get (D := D) (ci := 5) (v := .ref (ad 8)) (C := RX6) (T := TX6) (N := 24) hx hb hw zinX6 hown hK hP 0 rfl rfl 10 (by decide) (hw _ zw22) (fun _ h9 => h9) rfl dX6_move_48 ?_
        refine lv_iload_n hx hb dX6_move_51 rfl (lv_at hl 2 rfl) ?_
        obtain ⟨hi16, hm⟩ := zix_s hm
        refine va_iald (i := x1) (f := (u 8)) (n := 9) hx hb hK hP 8 7 rfl rfl hi16 dX6_move_52 ?_
        refine lv_if_le (tgt := 60) hx hb dX6_move_53 rfl (fun cd17 => ?_) (fun cd17 => ?_)
        · replace hm := zt cd17 hm
          exact b_M_move_60 G0 hK hX _ _ _ _ _ hm H _ _ hP hD hS (lv_sub hl [1, 2, 3] rfl)
        · replace hm := zf cd17 hm
          refine lv_iconst (v := 1) hx hb dX6_move_56 (by decide) ?_
          refine lv_goto (tgt := 61) hx hb dX6_move_57 rfl ?_
          exact b_M_move_61 G0 hK hX _ _ _ _ _ _ hm H _ _ hP hD hS (lv_sub hl [1, 2, 3] rfl)
set_option maxRecDepth 100000 in
set_option maxHeartbeats 4000000 in
theorem b_M_move_16 (G : zG p s m args meth c cX6_move RX6 4 none) (hK : va_K D vwCl (wM_t ca) s) (hX : zN (va_A w0 s.heap.size) s) {res : (Nat → Int32) × (Nat → Nat → Int32)} : ∀ (x1 : Int32) (x2 : Int32) (v : Nat → Int32) (u : Nat → Nat → Int32), m_M_move_16  x1 x2 v u = some res → zB p l e (zR 5 127) s m args below meth c D vwCl (va_A w0 s.heap.size) (MQ below (zQv D vwCl w0 (wM ad ca res.1 res.2) s.heap.size) args s 0 0 (va_A w0 s.heap.size)) 4 (wM ad ca v u) [(0, .ref (ad 0)), (1, .int x1), (2, .int x2)] 16 [] := by
  intro x1 x2 v u hm H locs ls hP hD hS hl
  unfold m_M_move_16 at hm
  have G0 := G
  obtain ⟨hx, hb, hr, hml, hown, hw, hlk⟩ := G
  have hA : ∀ q, s.heap.size ≤ q → va_A w0 s.heap.size q := fun q h => Or.inr h
  refine lv_iconst (v := 1) hx hb dX6_move_16 (by decide) ?_
  refine lv_goto (tgt := 21) hx hb dX6_move_17 rfl ?_
  exact b_M_move_21 G0 hK hX _ _ _ _ _ hm H _ _ hP hD hS hl
end
set_option maxRecDepth 100000 in
set_option maxHeartbeats 4000000 in
theorem k_M_move (l : Launch) (D : va_G) (ad : Nat → Nat) (ca : Nat → ClassId) (sz : Nat) (a0 : Int32) (a1 : Int32) (v : Nat → Int32) (u : Nat → Nat → Int32) (res : (Nat → Int32) × (Nat → Nat → Int32)) (hm : m_M_move a0 a1 v u  = some res) : Met l yX6_move (Cond.code yX6_move cX6_move 4 none :: zBIG) (zR 5 127) (va_Pc [.ref (ad 0), .int a0, .int a1] (zP zN D vwCl (wM_t ca) (wM ad ca v u) sz)) (zQv D vwCl (wM ad ca v u) (wM ad ca res.1 res.2) sz) 0 0 (va_A (wM ad ca v u) sz) := by
  refine zEnter RX6 [.ref (ad 0), .int a0, .int a1] (by decide) rfl (Nat.le_of_ble_eq_true rfl) (fun p e s m below meth c ls G hK hX hP hD hsz hl => ?_)
  subst hsz
  unfold m_M_move at hm
  have hl : lv_has ls 4 [(0, .ref (ad 0)), (1, .int a0), (2, .int a1)] := hl
  have hS : va_S (va_A (wM ad ca v u) s.heap.size) s.heap s.heap [] := va_S.rf
  have hA : ∀ q, s.heap.size ≤ q → va_A (wM ad ca v u) s.heap.size q := fun q h => Or.inr h
  have G0 := G
  obtain ⟨hx, hb, hr, hml, hown, hw, hlk⟩ := G
  refine lv_aload_n hx hb dX6_move_0 rfl (lv_at hl 0 rfl) ?_
  refine lv_iload_n hx hb dX6_move_1 rfl (lv_at hl 1 rfl) ?_
  obtain ⟨q1, hq1, hm⟩ := zbind hm
  refine zbWi (va_runV (As := [.int a0]) (rest := []) ⟨hx, hb, hml, hown, hw⟩ (k_M_isField l D ad ca _ a0 v u  q1 hq1) (zcV (C := RX6) 1 hw (zgood zw142) rfl rfl rfl zw7 zw144 zw143 zw145 hdX6_isField ⟨Nat.le_of_ble_eq_true rfl, Nat.le_of_ble_eq_true rfl⟩) (zpreV (zpre zN_ok trivial hS (zfree hD hS hA) hP hK hD) (va_recv hK hP rfl (q0 := 0) rfl)) rfl rfl hl.1 rfl (lv_room (Nat.le_of_ble_eq_true rfl)) dX6_move_2 ⟨Nat.zero_le _, Nat.zero_le _⟩) hS (zfree hD hS hA) (fun H locs hP hD hS => ?_)
  refine lv_if_eq (tgt := 16) hx hb dX6_move_5 rfl (fun cd2 => ?_) (fun cd2 => ?_)
  · replace hm := zt cd2 hm
    exact b_M_move_16 G0 hK hX _ _ _ _ hm _ _ _ hP hD hS hl
  · replace hm := zf cd2 hm
    refine lv_aload_n hx hb dX6_move_8 rfl (lv_at hl 0 rfl) ?_
    refine lv_iload_n hx hb dX6_move_9 rfl (lv_at hl 2 rfl) ?_
    obtain ⟨q18, hq18, hm⟩ := zbind hm
    refine zbWi (va_runV (As := [.int a1]) (rest := []) ⟨hx, hb, hml, hown, hw⟩ (k_M_isField l D ad ca _ a1 v u  q18 hq18) (zcV (C := RX6) 1 hw (zgood zw142) rfl rfl rfl zw7 zw144 zw143 zw145 hdX6_isField ⟨Nat.le_of_ble_eq_true rfl, Nat.le_of_ble_eq_true rfl⟩) (zpreV (zpre zN_ok trivial hS (zfree hD hS hA) hP hK hD) (va_recv hK hP rfl (q0 := 0) rfl)) rfl rfl hl.1 rfl (lv_room (Nat.le_of_ble_eq_true rfl)) dX6_move_10 ⟨Nat.zero_le _, Nat.zero_le _⟩) hS (zfree hD hS hA) (fun H locs hP hD hS => ?_)
    refine lv_if_ne (tgt := 20) hx hb dX6_move_13 rfl (fun cd19 => ?_) (fun cd19 => ?_)
    · replace hm := zf cd19 hm
      refine lv_iconst (v := 0) hx hb dX6_move_20 (by decide) ?_
      exact b_M_move_21 G0 hK hX _ _ _ _ _ hm _ _ _ hP hD hS hl
    · replace hm := zt cd19 hm
      exact b_M_move_16 G0 hK hX _ _ _ _ hm _ _ _ hP hD hS hl

theorem dX6_value_0 : decode cX6_value 0 = .ok (.aload_n 0, 1) := by decide +kernel
theorem dX6_value_1 : decode cX6_value 1 = .ok (.aload_n 0, 1) := by decide +kernel
theorem dX6_value_2 : decode cX6_value 2 = .ok (.iload_n 1, 1) := by decide +kernel
theorem dX6_value_3 : decode cX6_value 3 = .ok (.invokevirtual 155, 3) := by decide +kernel
theorem dX6_value_6 : decode cX6_value 6 = .ok (.ifCond .ne 7, 3) := by decide +kernel
theorem dX6_value_9 : decode cX6_value 9 = .ok (.iconst 1, 1) := by decide +kernel
theorem dX6_value_10 : decode cX6_value 10 = .ok (.goto 4, 3) := by decide +kernel
theorem dX6_value_13 : decode cX6_value 13 = .ok (.iconst 0, 1) := by decide +kernel
theorem dX6_value_14 : decode cX6_value 14 = .ok (.iconst 0, 1) := by decide +kernel
theorem dX6_value_15 : decode cX6_value 15 = .ok (.iconst 0, 1) := by decide +kernel
theorem dX6_value_16 : decode cX6_value 16 = .ok (.invokevirtual 135, 3) := by decide +kernel
theorem dX6_value_19 : decode cX6_value 19 = .ok (.ifCond .eq 5, 3) := by decide +kernel
theorem dX6_value_22 : decode cX6_value 22 = .ok (.lconst 0, 1) := by decide +kernel
theorem dX6_value_23 : decode cX6_value 23 = .ok (.lreturn, 1) := by decide +kernel
theorem dX6_value_24 : decode cX6_value 24 = .ok (.aload_n 0, 1) := by decide +kernel
theorem dX6_value_25 : decode cX6_value 25 = .ok (.iload_n 1, 1) := by decide +kernel
theorem dX6_value_26 : decode cX6_value 26 = .ok (.invokevirtual 202, 3) := by decide +kernel
theorem dX6_value_29 : decode cX6_value 29 = .ok (.lconst 0, 1) := by decide +kernel
theorem dX6_value_30 : decode cX6_value 30 = .ok (.lstore_n 2, 1) := by decide +kernel
theorem dX6_value_31 : decode cX6_value 31 = .ok (.bipush 17, 2) := by decide +kernel
theorem dX6_value_33 : decode cX6_value 33 = .ok (.istore 4, 2) := by decide +kernel
theorem dX6_value_35 : decode cX6_value 35 = .ok (.iload 4, 2) := by decide +kernel
theorem dX6_value_37 : decode cX6_value 37 = .ok (.ifCond .lt 24, 3) := by decide +kernel
theorem dX6_value_40 : decode cX6_value 40 = .ok (.lload_n 2, 1) := by decide +kernel
theorem dX6_value_41 : decode cX6_value 41 = .ok (.ldc2_w 200, 3) := by decide +kernel
theorem dX6_value_44 : decode cX6_value 44 = .ok (.lmul, 1) := by decide +kernel
theorem dX6_value_45 : decode cX6_value 45 = .ok (.aload_n 0, 1) := by decide +kernel
theorem dX6_value_46 : decode cX6_value 46 = .ok (.getfield 59, 3) := by decide +kernel
theorem dX6_value_49 : decode cX6_value 49 = .ok (.iload 4, 2) := by decide +kernel
theorem dX6_value_51 : decode cX6_value 51 = .ok (.iaload, 1) := by decide +kernel
theorem dX6_value_52 : decode cX6_value 52 = .ok (.i2l, 1) := by decide +kernel
theorem dX6_value_53 : decode cX6_value 53 = .ok (.ladd, 1) := by decide +kernel
theorem dX6_value_54 : decode cX6_value 54 = .ok (.lstore_n 2, 1) := by decide +kernel
theorem dX6_value_55 : decode cX6_value 55 = .ok (.iinc 4 (-1), 3) := by decide +kernel
theorem dX6_value_58 : decode cX6_value 58 = .ok (.goto (-23), 3) := by decide +kernel
theorem dX6_value_61 : decode cX6_value 61 = .ok (.aload_n 0, 1) := by decide +kernel
theorem dX6_value_62 : decode cX6_value 62 = .ok (.getfield 164, 3) := by decide +kernel
theorem dX6_value_65 : decode cX6_value 65 = .ok (.ifCond .eq 8, 3) := by decide +kernel
theorem dX6_value_68 : decode cX6_value 68 = .ok (.lload_n 2, 1) := by decide +kernel
theorem dX6_value_69 : decode cX6_value 69 = .ok (.lneg, 1) := by decide +kernel
theorem dX6_value_70 : decode cX6_value 70 = .ok (.goto 4, 3) := by decide +kernel
theorem dX6_value_73 : decode cX6_value 73 = .ok (.lload_n 2, 1) := by decide +kernel
theorem dX6_value_74 : decode cX6_value 74 = .ok (.lreturn, 1) := by decide +kernel
def m_M_value_35b  (rec : Int64 → Int32 → (Nat → Int32) → (Nat → Nat → Int32) → Option ((Int64) × (Nat → Int32) × (Nat → Nat → Int32))) (x2 : Int64) (x4 : Int32) (v : Nat → Int32) (u : Nat → Nat → Int32) : Option ((Int64) × (Nat → Int32) × (Nat → Nat → Int32)) := (if x4 < 0 then (if (v 21) = 0 then (some (x2, v, u)) else (some ((0 - x2), v, u))) else zix x4 48 (rec ((x2 * 10) + (((u 17) x4.toNatClampNeg).toInt64)) (x4 + (-1)) v u))
def m_M_value_35  : Nat → Int64 → Int32 → (Nat → Int32) → (Nat → Nat → Int32) → Option ((Int64) × (Nat → Int32) × (Nat → Nat → Int32))
  | 0 => fun _ _ _ _ => none
  | n + 1 => fun x2 x4 v u => m_M_value_35b  (m_M_value_35  n) x2 x4 v u
def m_M_value_14  (x1 : Int32) (t0 : Int32) (v : Nat → Int32) (u : Nat → Nat → Int32) : Option ((Int64) × (Nat → Int32) × (Nat → Nat → Int32)) := (m_M_fails t0 0 0 v u).bind (fun q3 => (if q3.1 = 0 then (m_M_takeNumber x1 q3.2 u).bind (fun q5 => m_M_value_35  64 0 17 q5.1 q5.2) else (some (0, q3.2, u))))
def m_M_value (a0 : Int32) (v : Nat → Int32) (u : Nat → Nat → Int32)  : Option ((Int64) × (Nat → Int32) × (Nat → Nat → Int32)) := (m_M_isField a0 v u).bind (fun q1 => (if q1 = 0 then m_M_value_14  a0 1 v u else m_M_value_14  a0 0 v u))
section
variable {p : Program} {l : Launch} {e : Env} {s : State} {m : MethodId} {args : Array Value} {below : List Frame} {meth : Method} {c : Code} {D : va_G} {w0 : va_W} {ad : Nat → Nat} {ca : Nat → ClassId}
set_option maxRecDepth 100000 in
set_option maxHeartbeats 4000000 in
theorem b_M_value_35 (G : zG p s m args meth c cX6_value RX6 5 (some .long)) (hK : va_K D vwCl (wM_t ca) s) (hX : zN (va_A w0 s.heap.size) s) {res : (Int64) × (Nat → Int32) × (Nat → Nat → Int32)} : ∀ n : Nat, ∀ (x2 : Int64) (x4 : Int32) (v : Nat → Int32) (u : Nat → Nat → Int32), m_M_value_35  n x2 x4 v u = some res → zB p l e (zR 3 72) s m args below meth c D vwCl (va_A w0 s.heap.size) (MQ below (zQl D vwCl w0 (wM ad ca res.2.1 res.2.2) s.heap.size res.1) args s 0 0 (va_A w0 s.heap.size)) 5 (wM ad ca v u) [(0, .ref (ad 0)), (2, .long x2), (4, .int x4)] 35 [] := by
  intro n
  induction n with
  | zero => intro x2 x4 v u hm; cases hm
  | succ n ih =>
  have hrec := ih
  intro x2 x4 v u hm H locs ls hP hD hS hl
  replace hm : m_M_value_35b  (m_M_value_35  n) x2 x4 v u = some res := hm
  generalize m_M_value_35  n = rec at hm hrec
  unfold m_M_value_35b at hm
  clear ih
  have G0 := G
  obtain ⟨hx, hb, hr, hml, hown, hw, hlk⟩ := G
  have hA : ∀ q, s.heap.size ≤ q → va_A w0 s.heap.size q := fun q h => Or.inr h
  refine lv_iload hx hb dX6_value_35 (lv_at hl 2 rfl) ?_
  refine lv_if_lt (tgt := 61) hx hb dX6_value_37 rfl (fun cd6 => ?_) (fun cd6 => ?_)
  · replace hm := zt cd6 hm
    refine lv_aload_n hx hb dX6_value_61 rfl (lv_at hl 0 rfl) ?_
    refine va_get (D := D) (ci := 5) (v := .int (v 21)) (C := RX6) (T := TX6) (N := 24) hx hb hw zinX6 hown hK hP 0 rfl rfl 21 (by decide) (hw _ zw19) (fun _ h9 => h9) rfl dX6_value_62 ?_
    refine lv_if_eq (tgt := 73) hx hb dX6_value_65 rfl (fun cd7 => ?_) (fun cd7 => ?_)
    · replace hm := zt cd7 hm
      refine lv_lload_n hx hb dX6_value_73 rfl (lv_at hl 1 rfl) ?_
      cases hm
      exact zretl hx hb hr hlk hP hD hS dX6_value_74
    · replace hm := zf cd7 hm
      refine lv_lload_n hx hb dX6_value_68 rfl (lv_at hl 1 rfl) ?_
      refine lv_lneg hx hb dX6_value_69 ?_
      refine lv_goto (tgt := 74) hx hb dX6_value_70 rfl ?_
      cases hm
      exact zretl hx hb hr hlk hP hD hS dX6_value_74
  · replace hm := zf cd6 hm
    refine lv_lload_n hx hb dX6_value_40 rfl (lv_at hl 1 rfl) ?_
    refine lv_ldc2 (v := 10) hx hb hown (hw _ zw158) dX6_value_41 ?_
    refine lv_lmul hx hb dX6_value_44 ?_
    refine lv_aload_n hx hb dX6_value_45 rfl (lv_at hl 0 rfl) ?_
    refine va_get (D := D) (ci := 5) (v := .ref (ad 17)) (C := RX6) (T := TX6) (N := 24) hx hb hw zinX6 hown hK hP 0 rfl rfl 19 (by decide) (hw _ zw20) (fun _ h9 => h9) rfl dX6_value_46 ?_
    refine lv_iload hx hb dX6_value_49 (lv_at hl 2 rfl) ?_
    obtain ⟨hi8, hm⟩ := zix_s hm
    refine va_iald (i := x4) (f := (u 17)) (n := 48) hx hb hK hP 17 16 rfl rfl hi8 dX6_value_51 ?_
    refine lv_i2l (v := (((u 17) x4.toNatClampNeg).toInt64)) hx hb dX6_value_52 rfl ?_
    refine lv_ladd hx hb dX6_value_53 ?_
    refine lv_lstore_n (lv' := [(2, .long ((x2 * 10) + (((u 17) x4.toNatClampNeg).toInt64))), (0, .ref (ad 0)), (4, .int x4)]) hx hb dX6_value_54 rfl hl (by decide) rfl (fun ls hl => ?_)
    refine lv_iinc (k := 2) (v := (x4 + (-1))) (lv' := [(4, .int (x4 + (-1))), (2, .long ((x2 * 10) + (((u 17) x4.toNatClampNeg).toInt64))), (0, .ref (ad 0))]) hx hb dX6_value_55 hl rfl rfl (by decide) rfl (fun ls hl => ?_)
    refine lv_goto (tgt := 35) hx hb dX6_value_58 rfl ?_
    exact hrec _ _ _ _ hm H _ _ hP hD hS (lv_sub hl [2, 1, 0] rfl)
set_option maxRecDepth 100000 in
set_option maxHeartbeats 4000000 in
theorem b_M_value_14 (G : zG p s m args meth c cX6_value RX6 5 (some .long)) (hK : va_K D vwCl (wM_t ca) s) (hX : zN (va_A w0 s.heap.size) s) {res : (Int64) × (Nat → Int32) × (Nat → Nat → Int32)} : ∀ (x1 : Int32) (t0 : Int32) (v : Nat → Int32) (u : Nat → Nat → Int32), m_M_value_14  x1 t0 v u = some res → zB p l e (zR 3 72) s m args below meth c D vwCl (va_A w0 s.heap.size) (MQ below (zQl D vwCl w0 (wM ad ca res.2.1 res.2.2) s.heap.size res.1) args s 0 0 (va_A w0 s.heap.size)) 5 (wM ad ca v u) [(0, .ref (ad 0)), (1, .int x1)] 14 [.int t0, .ref (ad 0)] := by
  intro x1 t0 v u hm H locs ls hP hD hS hl
  unfold m_M_value_14 at hm
  have G0 := G
  obtain ⟨hx, hb, hr, hml, hown, hw, hlk⟩ := G
  have hA : ∀ q, s.heap.size ≤ q → va_A w0 s.heap.size q := fun q h => Or.inr h
  refine lv_iconst (v := 0) hx hb dX6_value_14 (by decide) ?_
  refine lv_iconst (v := 0) hx hb dX6_value_15 (by decide) ?_
  obtain ⟨q3, hq3, hm⟩ := zbind hm
  refine zbWi (va_runV (As := [.int t0, .int 0, .int 0]) (rest := []) ⟨hx, hb, hml, hown, hw⟩ (k_M_fails l D ad ca _ t0 0 0 v u  q3 hq3) (zcV (C := RX6) 3 hw (zgood zw122) rfl rfl rfl zw7 zw124 zw123 zw125 hdX6_fails ⟨Nat.le_of_ble_eq_true rfl, Nat.le_of_ble_eq_true rfl⟩) (zpreV (zpre zN_ok trivial hS (zfree hD hS hA) hP hK hD) (va_recv hK hP rfl (q0 := 0) rfl)) rfl rfl hl.1 rfl (lv_room (Nat.le_of_ble_eq_true rfl)) dX6_value_16 ⟨Nat.zero_le _, Nat.zero_le _⟩) hS (zfree hD hS hA) (fun H locs hP hD hS => ?_)
  have hP : va_P D vwCl (wM ad ca q3.2 u) H := hP
  have hD : va_D _ (wM ad ca q3.2 u) := hD
  refine lv_if_eq (tgt := 24) hx hb dX6_value_19 rfl (fun cd4 => ?_) (fun cd4 => ?_)
  · replace hm := zt cd4 hm
    refine lv_aload_n hx hb dX6_value_24 rfl (lv_at hl 0 rfl) ?_
    refine lv_iload_n hx hb dX6_value_25 rfl (lv_at hl 1 rfl) ?_
    obtain ⟨q5, hq5, hm⟩ := zbind hm
    refine zbWv (va_runV (As := [.int x1]) (rest := []) ⟨hx, hb, hml, hown, hw⟩ (k_M_takeNumber l D ad ca _ x1 q3.2 u  q5 hq5) (zcV (C := RX6) 1 hw (zgood zw159) rfl rfl rfl zw7 zw161 zw160 zw162 hdX6_takeNumber ⟨Nat.le_of_ble_eq_true rfl, Nat.le_of_ble_eq_true rfl⟩) (zpreV (zpre zN_ok trivial hS (zfree hD hS hA) hP hK hD) (va_recv hK hP rfl (q0 := 0) rfl)) rfl rfl hl.1 rfl (lv_room (Nat.le_of_ble_eq_true rfl)) dX6_value_26 ⟨Nat.zero_le _, Nat.zero_le _⟩) hS (zfree hD hS hA) (fun H locs hP hD hS => ?_)
    have hP : va_P D vwCl (wM ad ca q5.1 q5.2) H := hP
    have hD : va_D _ (wM ad ca q5.1 q5.2) := hD
    refine lv_lconst (v := 0) hx hb dX6_value_29 (by decide) ?_
    refine lv_lstore_n (lv' := [(2, .long 0), (0, .ref (ad 0)), (1, .int x1)]) hx hb dX6_value_30 rfl hl (by decide) rfl (fun ls hl => ?_)
    refine lv_bipush (v := 17) hx hb dX6_value_31 (by decide) ?_
    refine lv_istore (lv' := [(4, .int 17), (2, .long 0), (0, .ref (ad 0)), (1, .int x1)]) hx hb dX6_value_33 hl (by decide) rfl (fun ls hl => ?_)
    exact b_M_value_35 G0 hK hX 64 _ _ _ _ hm H _ _ hP hD hS (lv_sub hl [2, 1, 0] rfl)
  · replace hm := zf cd4 hm
    refine lv_lconst (v := 0) hx hb dX6_value_22 (by decide) ?_
    cases hm
    exact zretl hx hb hr hlk hP hD hS dX6_value_23
end
set_option maxRecDepth 100000 in
set_option maxHeartbeats 4000000 in
theorem k_M_value (l : Launch) (D : va_G) (ad : Nat → Nat) (ca : Nat → ClassId) (sz : Nat) (a0 : Int32) (v : Nat → Int32) (u : Nat → Nat → Int32) (res : (Int64) × (Nat → Int32) × (Nat → Nat → Int32)) (hm : m_M_value a0 v u  = some res) : Met l yX6_value (Cond.code yX6_value cX6_value 5 (some .long) :: zBIG) (zR 3 72) (va_Pc [.ref (ad 0), .int a0] (zP zN D vwCl (wM_t ca) (wM ad ca v u) sz)) (zQl D vwCl (wM ad ca v u) (wM ad ca res.2.1 res.2.2) sz res.1) 0 0 (va_A (wM ad ca v u) sz) := by
  refine zEnter RX6 [.ref (ad 0), .int a0] (by decide) rfl (Nat.le_of_ble_eq_true rfl) (fun p e s m below meth c ls G hK hX hP hD hsz hl => ?_)
  subst hsz
  unfold m_M_value at hm
  have hl : lv_has ls 5 [(0, .ref (ad 0)), (1, .int a0)] := hl
  have hS : va_S (va_A (wM ad ca v u) s.heap.size) s.heap s.heap [] := va_S.rf
  have hA : ∀ q, s.heap.size ≤ q → va_A (wM ad ca v u) s.heap.size q := fun q h => Or.inr h
  have G0 := G
  obtain ⟨hx, hb, hr, hml, hown, hw, hlk⟩ := G
  refine lv_aload_n hx hb dX6_value_0 rfl (lv_at hl 0 rfl) ?_
  refine lv_aload_n hx hb dX6_value_1 rfl (lv_at hl 0 rfl) ?_
  refine lv_iload_n hx hb dX6_value_2 rfl (lv_at hl 1 rfl) ?_
  obtain ⟨q1, hq1, hm⟩ := zbind hm
  refine zbWi (va_runV (As := [.int a0]) (rest := [.ref (ad 0)]) ⟨hx, hb, hml, hown, hw⟩ (k_M_isField l D ad ca _ a0 v u  q1 hq1) (zcV (C := RX6) 1 hw (zgood zw142) rfl rfl rfl zw7 zw144 zw143 zw145 hdX6_isField ⟨Nat.le_of_ble_eq_true rfl, Nat.le_of_ble_eq_true rfl⟩) (zpreV (zpre zN_ok trivial hS (zfree hD hS hA) hP hK hD) (va_recv hK hP rfl (q0 := 0) rfl)) rfl rfl hl.1 rfl (lv_room (Nat.le_of_ble_eq_true rfl)) dX6_value_3 ⟨Nat.zero_le _, Nat.zero_le _⟩) hS (zfree hD hS hA) (fun H locs hP hD hS => ?_)
  refine lv_if_ne (tgt := 13) hx hb dX6_value_6 rfl (fun cd2 => ?_) (fun cd2 => ?_)
  · replace hm := zf cd2 hm
    refine lv_iconst (v := 0) hx hb dX6_value_13 (by decide) ?_
    exact b_M_value_14 G0 hK hX _ _ _ _ hm _ _ _ hP hD hS hl
  · replace hm := zt cd2 hm
    refine lv_iconst (v := 1) hx hb dX6_value_9 (by decide) ?_
    refine lv_goto (tgt := 14) hx hb dX6_value_10 rfl ?_
    exact b_M_value_14 G0 hK hX _ _ _ _ hm _ _ _ hP hD hS hl

