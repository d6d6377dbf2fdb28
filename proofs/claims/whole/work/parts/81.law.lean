theorem ml_L_13 : mt_ml RL 13 yX5_set := Or.inl (lw_in 336 (by decide +kernel) rfl)
theorem ml_L_17 : mt_ml RL 17 yX6_set := Or.inl (lw_in 975 (by decide +kernel) rfl)
theorem ml_L_18 : mt_ml RL 18 yX5_seen := Or.inl (lw_in 352 (by decide +kernel) rfl)
theorem ml_L_22 : mt_ml RL 22 yX6_seen := Or.inl (lw_in 994 (by decide +kernel) rfl)
theorem ml_L_23 : mt_ml RL 23 yX5_event := Or.inl (lw_in 356 (by decide +kernel) rfl)
theorem ml_L_26 : mt_ml RL 26 yX6_event := Or.inl (lw_in 998 (by decide +kernel) rfl)
theorem ml_L_27 : mt_ml RL 27 yX5_listed := Or.inl (lw_in 360 (by decide +kernel) rfl)
theorem ml_L_30 : mt_ml RL 30 yX6_listed := Or.inl (lw_in 1005 (by decide +kernel) rfl)
theorem ml_L_31 : mt_ml RL 31 yX5_treaty := Or.inl (lw_in 364 (by decide +kernel) rfl)
theorem ml_L_35 : mt_ml RL 35 yX6_treaty := Or.inl (lw_in 1009 (by decide +kernel) rfl)
theorem ml_L_36 : mt_ml RL 36 yX5_of := Or.inl (lw_in 379 (by decide +kernel) rfl)
theorem ml_L_39 : mt_ml RL 39 yX6_of := Or.inl (lw_in 1027 (by decide +kernel) rfl)
theorem ml_L_40 : mt_ml RL 40 yX5_change := Or.inl (lw_in 413 (by decide +kernel) rfl)
theorem ml_L_43 : mt_ml RL 43 yX6_change := Or.inl (lw_in 1066 (by decide +kernel) rfl)
theorem ml_L_44 : mt_ml RL 44 yX5_wars := Or.inl (lw_in 427 (by decide +kernel) rfl)
theorem ml_L_47 : mt_ml RL 47 yX6_wars := Or.inl (lw_in 1074 (by decide +kernel) rfl)
theorem ml_L_48 : mt_ml RL 48 yX5_go := Or.inl (lw_in 446 (by decide +kernel) rfl)
theorem ml_L_51 : mt_ml RL 51 yX6_go := Or.inl (lw_in 1086 (by decide +kernel) rfl)
theorem ml_L_52 : mt_ml RL 52 yX5_now := Or.inl (lw_in 497 (by decide +kernel) rfl)
theorem ml_L_55 : mt_ml RL 55 yX6_now := Or.inl (lw_in 1121 (by decide +kernel) rfl)
theorem ml_L_56 : mt_ml RL 56 yX5_ahead := Or.inl (lw_in 524 (by decide +kernel) rfl)
theorem ml_L_59 : mt_ml RL 59 yX6_ahead := Or.inl (lw_in 1145 (by decide +kernel) rfl)
theorem ml_L_60 : mt_ml RL 60 yX5_gold := Or.inl (lw_in 546 (by decide +kernel) rfl)
theorem ml_L_63 : mt_ml RL 63 yX6_gold := Or.inl (lw_in 1156 (by decide +kernel) rfl)
theorem ml_L_64 : mt_ml RL 64 yX5_breaks := Or.inl (lw_in 558 (by decide +kernel) rfl)
theorem ml_L_67 : mt_ml RL 67 yX6_breaks := Or.inl (lw_in 1164 (by decide +kernel) rfl)
theorem ml_L_68 : mt_ml RL 68 yX5_war := Or.inl (lw_in 563 (by decide +kernel) rfl)
theorem ml_L_71 : mt_ml RL 71 yX6_war := Or.inl (lw_in 1177 (by decide +kernel) rfl)
theorem ml_L_72 : mt_ml RL 72 yX5_peace := Or.inl (lw_in 568 (by decide +kernel) rfl)
theorem ml_L_76 : mt_ml RL 76 yX6_peace := Or.inl (lw_in 1181 (by decide +kernel) rfl)
theorem ml_L_77 : mt_ml RL 77 yX5_when := Or.inl (lw_in 572 (by decide +kernel) rfl)
theorem ml_L_80 : mt_ml RL 80 yX6_when := Or.inl (lw_in 1185 (by decide +kernel) rfl)
theorem ml_L_81 : mt_ml RL 81 yX5_yardFor := Or.inl (lw_in 576 (by decide +kernel) rfl)
theorem ml_L_84 : mt_ml RL 84 yX6_yardFor := Or.inl (lw_in 1189 (by decide +kernel) rfl)
theorem ml_L_85 : mt_ml RL 85 yX5_kindFor := Or.inl (lw_in 580 (by decide +kernel) rfl)
theorem ml_L_88 : mt_ml RL 88 yX6_kindFor := Or.inl (lw_in 1196 (by decide +kernel) rfl)
theorem ml_L_89 : mt_ml RL 89 yX5_strike := Or.inl (lw_in 584 (by decide +kernel) rfl)
theorem ml_L_92 : mt_ml RL 92 yX6_strike := Or.inl (lw_in 1200 (by decide +kernel) rfl)
theorem ml_L_93 : mt_ml RL 93 yX5_lull := Or.inl (lw_in 588 (by decide +kernel) rfl)
theorem ml_L_96 : mt_ml RL 96 yX6_lull := Or.inl (lw_in 1204 (by decide +kernel) rfl)
theorem ml_L_97 : mt_ml RL 97 yX5_tear := Or.inl (lw_in 611 (by decide +kernel) rfl)
theorem ml_L_100 : mt_ml RL 100 yX6_tear := Or.inl (lw_in 1212 (by decide +kernel) rfl)
theorem ml_L_101 : mt_ml RL 101 yX5_fits := Or.inl (lw_in 623 (by decide +kernel) rfl)
theorem ml_L_104 : mt_ml RL 104 yX6_fits := Or.inl (lw_in 1220 (by decide +kernel) rfl)
theorem ml_L_105 : mt_ml RL 105 yX5_kinds := Or.inl (lw_in 669 (by decide +kernel) rfl)
theorem ml_L_108 : mt_ml RL 108 yX6_kinds := Or.inl (lw_in 1236 (by decide +kernel) rfl)
theorem ml_L_109 : mt_ml RL 109 yX5_wakings := Or.inl (lw_in 673 (by decide +kernel) rfl)
theorem ml_L_112 : mt_ml RL 112 yX6_wakings := Or.inl (lw_in 1240 (by decide +kernel) rfl)
theorem ml_L_113 : mt_ml RL 113 yX5_odds := Or.inl (lw_in 682 (by decide +kernel) rfl)
theorem ml_L_117 : mt_ml RL 117 yX6_odds := Or.inl (lw_in 1249 (by decide +kernel) rfl)
theorem ml_L_118 : mt_ml RL 118 yX5_seed := Or.inl (lw_in 692 (by decide +kernel) rfl)
theorem ml_L_121 : mt_ml RL 121 yX6_seed := Or.inl (lw_in 1253 (by decide +kernel) rfl)
theorem ml_L_122 : mt_ml RL 122 yX5_feed := Or.inl (lw_in 696 (by decide +kernel) rfl)
theorem ml_L_125 : mt_ml RL 125 yX6_feed := Or.inl (lw_in 1257 (by decide +kernel) rfl)
theorem ml_L_126 : mt_ml RL 126 yX5_wipe := Or.inl (lw_in 704 (by decide +kernel) rfl)
theorem ml_L_129 : mt_ml RL 129 yX6_wipe := Or.inl (lw_in 1261 (by decide +kernel) rfl)
theorem ml_L_130 : mt_ml RL 130 yX5_text := Or.inl (lw_in 708 (by decide +kernel) rfl)
theorem ml_L_133 : mt_ml RL 133 yX6_text := Or.inl (lw_in 1265 (by decide +kernel) rfl)
theorem ml_L_134 : mt_ml RL 134 yX5_hold := Or.inl (lw_in 825 (by decide +kernel) rfl)
theorem ml_L_137 : mt_ml RL 137 yX6_hold := Or.inl (lw_in 1321 (by decide +kernel) rfl)
theorem ml_L_138 : mt_ml RL 138 yX5_as := Or.inl (lw_in 829 (by decide +kernel) rfl)
theorem ml_L_141 : mt_ml RL 141 yX6_as := Or.inl (lw_in 1328 (by decide +kernel) rfl)
theorem ml_L_142 : mt_ml RL 142 yX5_sheet := Or.inl (lw_in 839 (by decide +kernel) rfl)
theorem ml_L_145 : mt_ml RL 145 yX6_sheet := Or.inl (lw_in 1339 (by decide +kernel) rfl)
theorem ml_L_146 : mt_ml RL 146 yX5_write := Or.inl (lw_in 847 (by decide +kernel) rfl)
theorem ml_L_149 : mt_ml RL 149 yX6_write := Or.inl (lw_in 1344 (by decide +kernel) rfl)
theorem ml_L_150 : mt_ml RL 150 yX5_copy := Or.inl (lw_in 855 (by decide +kernel) rfl)
theorem ml_L_154 : mt_ml RL 154 yX6_copy := Or.inl (lw_in 1351 (by decide +kernel) rfl)
theorem ml_L_155 : mt_ml RL 155 yX5_load := Or.inl (lw_in 864 (by decide +kernel) rfl)
theorem ml_L_158 : mt_ml RL 158 yX6_load := Or.inl (lw_in 1355 (by decide +kernel) rfl)
theorem ml_L_159 : mt_ml RL 159 yX5_judge := Or.inl (lw_in 868 (by decide +kernel) rfl)
theorem ml_L_162 : mt_ml RL 162 yX6_judge := Or.inl (lw_in 1359 (by decide +kernel) rfl)
theorem ml_L_163 : mt_ml RL 163 yX5_image := Or.inl (lw_in 872 (by decide +kernel) rfl)
theorem ml_L_166 : mt_ml RL 166 yX6_image := Or.inl (lw_in 1363 (by decide +kernel) rfl)
theorem ml_L_167 : mt_ml RL 167 yX5_undo := Or.inl (lw_in 876 (by decide +kernel) rfl)
theorem ml_L_170 : mt_ml RL 170 yX6_undo := Or.inl (lw_in 1367 (by decide +kernel) rfl)
theorem ml_L_171 : mt_ml RL 171 yX5_forget := Or.inl (lw_in 880 (by decide +kernel) rfl)
theorem ml_L_174 : mt_ml RL 174 yX6_forget := Or.inl (lw_in 1371 (by decide +kernel) rfl)
theorem ml_L_175 : mt_ml RL 175 yX5_count := Or.inl (lw_in 884 (by decide +kernel) rfl)
theorem ml_L_178 : mt_ml RL 178 yX6_count := Or.inl (lw_in 1375 (by decide +kernel) rfl)
theorem ml_L_179 : mt_ml RL 179 yX5_status := Or.inl (lw_in 892 (by decide +kernel) rfl)
theorem ml_L_182 : mt_ml RL 182 yX6_status := Or.inl (lw_in 1379 (by decide +kernel) rfl)
theorem ic_6 : Int32.ofInt 6 = 6 := by decide
theorem dL_law_18 : decode cL_law 18 = .ok (.iload_n 3, 1) := by decide +kernel
theorem dL_law_19 : decode cL_law 19 = .ok (.aload_n 0, 1) := by decide +kernel
theorem dL_law_20 : decode cL_law 20 = .ok (.arraylength, 1) := by decide +kernel
theorem dL_law_21 : decode cL_law 21 = .ok (.bipush 6, 2) := by decide +kernel
theorem dL_law_23 : decode cL_law 23 = .ok (.isub, 1) := by decide +kernel
theorem dL_law_24 : decode cL_law 24 = .ok (.if_icmp .gt 1368, 3) := by decide +kernel
theorem dL_law_27 : decode cL_law 27 = .ok (.aload_n 0, 1) := by decide +kernel
theorem dL_law_28 : decode cL_law 28 = .ok (.iload_n 3, 1) := by decide +kernel
theorem dL_law_29 : decode cL_law 29 = .ok (.iaload, 1) := by decide +kernel
theorem dL_law_30 : decode cL_law 30 = .ok (.bipush 63, 2) := by decide +kernel
theorem dL_law_32 : decode cL_law 32 = .ok (.iand, 1) := by decide +kernel
theorem dL_law_33 : decode cL_law 33 = .ok (.tableswitch 1353 0 40 #[179, 212, 235, 268, 291, 334, 367, 410, 433, 456, 479, 522, 545, 568, 601, 614, 647, 670, 703, 736, 759, 792, 825, 858, 881, 925, 948, 981, 994, 1007, 1040, 1073, 1116, 1159, 1222, 1245, 1268, 1281, 1294, 1307, 1330], 179) := by decide +kernel
theorem dL_law_212 : decode cL_law 212 = .ok (.aload_n 1, 1) := by decide +kernel
theorem dL_law_213 : decode cL_law 213 = .ok (.aload_n 0, 1) := by decide +kernel
theorem dL_law_214 : decode cL_law 214 = .ok (.iload_n 3, 1) := by decide +kernel
theorem dL_law_215 : decode cL_law 215 = .ok (.iconst 1, 1) := by decide +kernel
theorem dL_law_216 : decode cL_law 216 = .ok (.iadd, 1) := by decide +kernel
theorem dL_law_217 : decode cL_law 217 = .ok (.iaload, 1) := by decide +kernel
theorem dL_law_218 : decode cL_law 218 = .ok (.aload_n 0, 1) := by decide +kernel
theorem dL_law_219 : decode cL_law 219 = .ok (.iload_n 3, 1) := by decide +kernel
theorem dL_law_220 : decode cL_law 220 = .ok (.iconst 2, 1) := by decide +kernel
theorem dL_law_221 : decode cL_law 221 = .ok (.iadd, 1) := by decide +kernel
theorem dL_law_222 : decode cL_law 222 = .ok (.iaload, 1) := by decide +kernel
theorem dL_law_223 : decode cL_law 223 = .ok (.invokevirtual 13, 3) := by decide +kernel
theorem dL_law_226 : decode cL_law 226 = .ok (.aload_n 2, 1) := by decide +kernel
theorem dL_law_227 : decode cL_law 227 = .ok (.aload_n 0, 1) := by decide +kernel
theorem dL_law_228 : decode cL_law 228 = .ok (.iload_n 3, 1) := by decide +kernel
theorem dL_law_229 : decode cL_law 229 = .ok (.iconst 1, 1) := by decide +kernel
theorem dL_law_230 : decode cL_law 230 = .ok (.iadd, 1) := by decide +kernel
theorem dL_law_231 : decode cL_law 231 = .ok (.iaload, 1) := by decide +kernel
theorem dL_law_232 : decode cL_law 232 = .ok (.aload_n 0, 1) := by decide +kernel
theorem dL_law_233 : decode cL_law 233 = .ok (.iload_n 3, 1) := by decide +kernel
theorem dL_law_234 : decode cL_law 234 = .ok (.iconst 2, 1) := by decide +kernel
theorem dL_law_235 : decode cL_law 235 = .ok (.iadd, 1) := by decide +kernel
theorem dL_law_236 : decode cL_law 236 = .ok (.iaload, 1) := by decide +kernel
theorem dL_law_237 : decode cL_law 237 = .ok (.invokevirtual 17, 3) := by decide +kernel
theorem dL_law_240 : decode cL_law 240 = .ok (.if_icmp .eq 1146, 3) := by decide +kernel
theorem dL_law_243 : decode cL_law 243 = .ok (.iconst 0, 1) := by decide +kernel
theorem dL_law_244 : decode cL_law 244 = .ok (.ireturn, 1) := by decide +kernel
theorem dL_law_245 : decode cL_law 245 = .ok (.aload_n 1, 1) := by decide +kernel
theorem dL_law_246 : decode cL_law 246 = .ok (.aload_n 0, 1) := by decide +kernel
theorem dL_law_247 : decode cL_law 247 = .ok (.iload_n 3, 1) := by decide +kernel
theorem dL_law_248 : decode cL_law 248 = .ok (.iconst 1, 1) := by decide +kernel
theorem dL_law_249 : decode cL_law 249 = .ok (.iadd, 1) := by decide +kernel
theorem dL_law_250 : decode cL_law 250 = .ok (.iaload, 1) := by decide +kernel
theorem dL_law_251 : decode cL_law 251 = .ok (.invokevirtual 18, 3) := by decide +kernel
theorem dL_law_254 : decode cL_law 254 = .ok (.aload_n 2, 1) := by decide +kernel
theorem dL_law_255 : decode cL_law 255 = .ok (.aload_n 0, 1) := by decide +kernel
theorem dL_law_256 : decode cL_law 256 = .ok (.iload_n 3, 1) := by decide +kernel
theorem dL_law_257 : decode cL_law 257 = .ok (.iconst 1, 1) := by decide +kernel
theorem dL_law_258 : decode cL_law 258 = .ok (.iadd, 1) := by decide +kernel
theorem dL_law_259 : decode cL_law 259 = .ok (.iaload, 1) := by decide +kernel
theorem dL_law_260 : decode cL_law 260 = .ok (.invokevirtual 22, 3) := by decide +kernel
theorem dL_law_263 : decode cL_law 263 = .ok (.if_icmp .eq 1123, 3) := by decide +kernel
theorem dL_law_266 : decode cL_law 266 = .ok (.iconst 0, 1) := by decide +kernel
theorem dL_law_267 : decode cL_law 267 = .ok (.ireturn, 1) := by decide +kernel
theorem dL_law_268 : decode cL_law 268 = .ok (.aload_n 1, 1) := by decide +kernel
theorem dL_law_269 : decode cL_law 269 = .ok (.aload_n 0, 1) := by decide +kernel
theorem dL_law_270 : decode cL_law 270 = .ok (.iload_n 3, 1) := by decide +kernel
theorem dL_law_271 : decode cL_law 271 = .ok (.iconst 1, 1) := by decide +kernel
theorem dL_law_272 : decode cL_law 272 = .ok (.iadd, 1) := by decide +kernel
theorem dL_law_273 : decode cL_law 273 = .ok (.iaload, 1) := by decide +kernel
theorem dL_law_274 : decode cL_law 274 = .ok (.aload_n 0, 1) := by decide +kernel
theorem dL_law_275 : decode cL_law 275 = .ok (.iload_n 3, 1) := by decide +kernel
theorem dL_law_276 : decode cL_law 276 = .ok (.iconst 2, 1) := by decide +kernel
theorem dL_law_277 : decode cL_law 277 = .ok (.iadd, 1) := by decide +kernel
theorem dL_law_278 : decode cL_law 278 = .ok (.iaload, 1) := by decide +kernel
theorem dL_law_279 : decode cL_law 279 = .ok (.invokevirtual 23, 3) := by decide +kernel
theorem dL_law_282 : decode cL_law 282 = .ok (.aload_n 2, 1) := by decide +kernel
theorem dL_law_283 : decode cL_law 283 = .ok (.aload_n 0, 1) := by decide +kernel
theorem dL_law_284 : decode cL_law 284 = .ok (.iload_n 3, 1) := by decide +kernel
theorem dL_law_285 : decode cL_law 285 = .ok (.iconst 1, 1) := by decide +kernel
theorem dL_law_286 : decode cL_law 286 = .ok (.iadd, 1) := by decide +kernel
theorem dL_law_287 : decode cL_law 287 = .ok (.iaload, 1) := by decide +kernel
theorem dL_law_288 : decode cL_law 288 = .ok (.aload_n 0, 1) := by decide +kernel
theorem dL_law_289 : decode cL_law 289 = .ok (.iload_n 3, 1) := by decide +kernel
theorem dL_law_290 : decode cL_law 290 = .ok (.iconst 2, 1) := by decide +kernel
theorem dL_law_291 : decode cL_law 291 = .ok (.iadd, 1) := by decide +kernel
theorem dL_law_292 : decode cL_law 292 = .ok (.iaload, 1) := by decide +kernel
theorem dL_law_293 : decode cL_law 293 = .ok (.invokevirtual 26, 3) := by decide +kernel
theorem dL_law_296 : decode cL_law 296 = .ok (.if_icmp .eq 1090, 3) := by decide +kernel
theorem dL_law_299 : decode cL_law 299 = .ok (.iconst 0, 1) := by decide +kernel
theorem dL_law_300 : decode cL_law 300 = .ok (.ireturn, 1) := by decide +kernel
theorem dL_law_301 : decode cL_law 301 = .ok (.aload_n 1, 1) := by decide +kernel
theorem dL_law_302 : decode cL_law 302 = .ok (.aload_n 0, 1) := by decide +kernel
theorem dL_law_303 : decode cL_law 303 = .ok (.iload_n 3, 1) := by decide +kernel
theorem dL_law_304 : decode cL_law 304 = .ok (.iconst 1, 1) := by decide +kernel
theorem dL_law_305 : decode cL_law 305 = .ok (.iadd, 1) := by decide +kernel
theorem dL_law_306 : decode cL_law 306 = .ok (.iaload, 1) := by decide +kernel
theorem dL_law_307 : decode cL_law 307 = .ok (.invokevirtual 27, 3) := by decide +kernel
theorem dL_law_310 : decode cL_law 310 = .ok (.aload_n 2, 1) := by decide +kernel
theorem dL_law_311 : decode cL_law 311 = .ok (.aload_n 0, 1) := by decide +kernel
theorem dL_law_312 : decode cL_law 312 = .ok (.iload_n 3, 1) := by decide +kernel
theorem dL_law_313 : decode cL_law 313 = .ok (.iconst 1, 1) := by decide +kernel
theorem dL_law_314 : decode cL_law 314 = .ok (.iadd, 1) := by decide +kernel
theorem dL_law_315 : decode cL_law 315 = .ok (.iaload, 1) := by decide +kernel
theorem dL_law_316 : decode cL_law 316 = .ok (.invokevirtual 30, 3) := by decide +kernel
theorem dL_law_319 : decode cL_law 319 = .ok (.if_icmp .eq 1067, 3) := by decide +kernel
theorem dL_law_322 : decode cL_law 322 = .ok (.iconst 0, 1) := by decide +kernel
theorem dL_law_323 : decode cL_law 323 = .ok (.ireturn, 1) := by decide +kernel
theorem dL_law_324 : decode cL_law 324 = .ok (.aload_n 1, 1) := by decide +kernel
theorem dL_law_325 : decode cL_law 325 = .ok (.aload_n 0, 1) := by decide +kernel
theorem dL_law_326 : decode cL_law 326 = .ok (.iload_n 3, 1) := by decide +kernel
theorem dL_law_327 : decode cL_law 327 = .ok (.iconst 1, 1) := by decide +kernel
theorem dL_law_328 : decode cL_law 328 = .ok (.iadd, 1) := by decide +kernel
theorem dL_law_329 : decode cL_law 329 = .ok (.iaload, 1) := by decide +kernel
theorem dL_law_330 : decode cL_law 330 = .ok (.aload_n 0, 1) := by decide +kernel
theorem dL_law_331 : decode cL_law 331 = .ok (.iload_n 3, 1) := by decide +kernel
theorem dL_law_332 : decode cL_law 332 = .ok (.iconst 2, 1) := by decide +kernel
theorem dL_law_333 : decode cL_law 333 = .ok (.iadd, 1) := by decide +kernel
theorem dL_law_334 : decode cL_law 334 = .ok (.iaload, 1) := by decide +kernel
theorem dL_law_335 : decode cL_law 335 = .ok (.aload_n 0, 1) := by decide +kernel
theorem dL_law_336 : decode cL_law 336 = .ok (.iload_n 3, 1) := by decide +kernel
theorem dL_law_337 : decode cL_law 337 = .ok (.iconst 3, 1) := by decide +kernel
theorem dL_law_338 : decode cL_law 338 = .ok (.iadd, 1) := by decide +kernel
theorem dL_law_339 : decode cL_law 339 = .ok (.iaload, 1) := by decide +kernel
theorem dL_law_340 : decode cL_law 340 = .ok (.invokevirtual 31, 3) := by decide +kernel
theorem dL_law_343 : decode cL_law 343 = .ok (.aload_n 2, 1) := by decide +kernel
theorem dL_law_344 : decode cL_law 344 = .ok (.aload_n 0, 1) := by decide +kernel
theorem dL_law_345 : decode cL_law 345 = .ok (.iload_n 3, 1) := by decide +kernel
theorem dL_law_346 : decode cL_law 346 = .ok (.iconst 1, 1) := by decide +kernel
theorem dL_law_347 : decode cL_law 347 = .ok (.iadd, 1) := by decide +kernel
theorem dL_law_348 : decode cL_law 348 = .ok (.iaload, 1) := by decide +kernel
theorem dL_law_349 : decode cL_law 349 = .ok (.aload_n 0, 1) := by decide +kernel
theorem dL_law_350 : decode cL_law 350 = .ok (.iload_n 3, 1) := by decide +kernel
theorem dL_law_351 : decode cL_law 351 = .ok (.iconst 2, 1) := by decide +kernel
theorem dL_law_352 : decode cL_law 352 = .ok (.iadd, 1) := by decide +kernel
theorem dL_law_353 : decode cL_law 353 = .ok (.iaload, 1) := by decide +kernel
theorem dL_law_354 : decode cL_law 354 = .ok (.aload_n 0, 1) := by decide +kernel
theorem dL_law_355 : decode cL_law 355 = .ok (.iload_n 3, 1) := by decide +kernel
theorem dL_law_356 : decode cL_law 356 = .ok (.iconst 3, 1) := by decide +kernel
theorem dL_law_357 : decode cL_law 357 = .ok (.iadd, 1) := by decide +kernel
theorem dL_law_358 : decode cL_law 358 = .ok (.iaload, 1) := by decide +kernel
theorem dL_law_359 : decode cL_law 359 = .ok (.invokevirtual 35, 3) := by decide +kernel
theorem dL_law_362 : decode cL_law 362 = .ok (.if_icmp .eq 1024, 3) := by decide +kernel
theorem dL_law_365 : decode cL_law 365 = .ok (.iconst 0, 1) := by decide +kernel
theorem dL_law_366 : decode cL_law 366 = .ok (.ireturn, 1) := by decide +kernel
theorem dL_law_367 : decode cL_law 367 = .ok (.aload_n 1, 1) := by decide +kernel
theorem dL_law_368 : decode cL_law 368 = .ok (.aload_n 0, 1) := by decide +kernel
theorem dL_law_369 : decode cL_law 369 = .ok (.iload_n 3, 1) := by decide +kernel
theorem dL_law_370 : decode cL_law 370 = .ok (.iconst 1, 1) := by decide +kernel
theorem dL_law_371 : decode cL_law 371 = .ok (.iadd, 1) := by decide +kernel
theorem dL_law_372 : decode cL_law 372 = .ok (.iaload, 1) := by decide +kernel
theorem dL_law_373 : decode cL_law 373 = .ok (.aload_n 0, 1) := by decide +kernel
theorem dL_law_374 : decode cL_law 374 = .ok (.iload_n 3, 1) := by decide +kernel
theorem dL_law_375 : decode cL_law 375 = .ok (.iconst 2, 1) := by decide +kernel
theorem dL_law_376 : decode cL_law 376 = .ok (.iadd, 1) := by decide +kernel
theorem dL_law_377 : decode cL_law 377 = .ok (.iaload, 1) := by decide +kernel
theorem dL_law_378 : decode cL_law 378 = .ok (.invokevirtual 36, 3) := by decide +kernel
theorem dL_law_381 : decode cL_law 381 = .ok (.aload_n 2, 1) := by decide +kernel
theorem dL_law_382 : decode cL_law 382 = .ok (.aload_n 0, 1) := by decide +kernel
theorem dL_law_383 : decode cL_law 383 = .ok (.iload_n 3, 1) := by decide +kernel
theorem dL_law_384 : decode cL_law 384 = .ok (.iconst 1, 1) := by decide +kernel
theorem dL_law_385 : decode cL_law 385 = .ok (.iadd, 1) := by decide +kernel
theorem dL_law_386 : decode cL_law 386 = .ok (.iaload, 1) := by decide +kernel
theorem dL_law_387 : decode cL_law 387 = .ok (.aload_n 0, 1) := by decide +kernel
theorem dL_law_388 : decode cL_law 388 = .ok (.iload_n 3, 1) := by decide +kernel
theorem dL_law_389 : decode cL_law 389 = .ok (.iconst 2, 1) := by decide +kernel
theorem dL_law_390 : decode cL_law 390 = .ok (.iadd, 1) := by decide +kernel
theorem dL_law_391 : decode cL_law 391 = .ok (.iaload, 1) := by decide +kernel
theorem dL_law_392 : decode cL_law 392 = .ok (.invokevirtual 39, 3) := by decide +kernel
theorem dL_law_395 : decode cL_law 395 = .ok (.if_icmp .eq 991, 3) := by decide +kernel
theorem dL_law_398 : decode cL_law 398 = .ok (.iconst 0, 1) := by decide +kernel
theorem dL_law_399 : decode cL_law 399 = .ok (.ireturn, 1) := by decide +kernel
theorem dL_law_400 : decode cL_law 400 = .ok (.aload_n 1, 1) := by decide +kernel
theorem dL_law_401 : decode cL_law 401 = .ok (.aload_n 0, 1) := by decide +kernel
theorem dL_law_402 : decode cL_law 402 = .ok (.iload_n 3, 1) := by decide +kernel
theorem dL_law_403 : decode cL_law 403 = .ok (.iconst 1, 1) := by decide +kernel
theorem dL_law_404 : decode cL_law 404 = .ok (.iadd, 1) := by decide +kernel
theorem dL_law_405 : decode cL_law 405 = .ok (.iaload, 1) := by decide +kernel
theorem dL_law_406 : decode cL_law 406 = .ok (.aload_n 0, 1) := by decide +kernel
theorem dL_law_407 : decode cL_law 407 = .ok (.iload_n 3, 1) := by decide +kernel
theorem dL_law_408 : decode cL_law 408 = .ok (.iconst 2, 1) := by decide +kernel
theorem dL_law_409 : decode cL_law 409 = .ok (.iadd, 1) := by decide +kernel
theorem dL_law_410 : decode cL_law 410 = .ok (.iaload, 1) := by decide +kernel
theorem dL_law_411 : decode cL_law 411 = .ok (.aload_n 0, 1) := by decide +kernel
theorem dL_law_412 : decode cL_law 412 = .ok (.iload_n 3, 1) := by decide +kernel
theorem dL_law_413 : decode cL_law 413 = .ok (.iconst 3, 1) := by decide +kernel
theorem dL_law_414 : decode cL_law 414 = .ok (.iadd, 1) := by decide +kernel
theorem dL_law_415 : decode cL_law 415 = .ok (.iaload, 1) := by decide +kernel
theorem dL_law_416 : decode cL_law 416 = .ok (.invokevirtual 40, 3) := by decide +kernel
theorem dL_law_419 : decode cL_law 419 = .ok (.aload_n 2, 1) := by decide +kernel
theorem dL_law_420 : decode cL_law 420 = .ok (.aload_n 0, 1) := by decide +kernel
theorem dL_law_421 : decode cL_law 421 = .ok (.iload_n 3, 1) := by decide +kernel
theorem dL_law_422 : decode cL_law 422 = .ok (.iconst 1, 1) := by decide +kernel
theorem dL_law_423 : decode cL_law 423 = .ok (.iadd, 1) := by decide +kernel
theorem dL_law_424 : decode cL_law 424 = .ok (.iaload, 1) := by decide +kernel
theorem dL_law_425 : decode cL_law 425 = .ok (.aload_n 0, 1) := by decide +kernel
theorem dL_law_426 : decode cL_law 426 = .ok (.iload_n 3, 1) := by decide +kernel
theorem dL_law_427 : decode cL_law 427 = .ok (.iconst 2, 1) := by decide +kernel
theorem dL_law_428 : decode cL_law 428 = .ok (.iadd, 1) := by decide +kernel
theorem dL_law_429 : decode cL_law 429 = .ok (.iaload, 1) := by decide +kernel
theorem dL_law_430 : decode cL_law 430 = .ok (.aload_n 0, 1) := by decide +kernel
theorem dL_law_431 : decode cL_law 431 = .ok (.iload_n 3, 1) := by decide +kernel
theorem dL_law_432 : decode cL_law 432 = .ok (.iconst 3, 1) := by decide +kernel
theorem dL_law_433 : decode cL_law 433 = .ok (.iadd, 1) := by decide +kernel
theorem dL_law_434 : decode cL_law 434 = .ok (.iaload, 1) := by decide +kernel
theorem dL_law_435 : decode cL_law 435 = .ok (.invokevirtual 43, 3) := by decide +kernel
theorem dL_law_438 : decode cL_law 438 = .ok (.if_icmp .eq 948, 3) := by decide +kernel
theorem dL_law_441 : decode cL_law 441 = .ok (.iconst 0, 1) := by decide +kernel
theorem dL_law_442 : decode cL_law 442 = .ok (.ireturn, 1) := by decide +kernel
theorem dL_law_443 : decode cL_law 443 = .ok (.aload_n 1, 1) := by decide +kernel
theorem dL_law_444 : decode cL_law 444 = .ok (.aload_n 0, 1) := by decide +kernel
theorem dL_law_445 : decode cL_law 445 = .ok (.iload_n 3, 1) := by decide +kernel
theorem dL_law_446 : decode cL_law 446 = .ok (.iconst 1, 1) := by decide +kernel
theorem dL_law_447 : decode cL_law 447 = .ok (.iadd, 1) := by decide +kernel
theorem dL_law_448 : decode cL_law 448 = .ok (.iaload, 1) := by decide +kernel
theorem dL_law_449 : decode cL_law 449 = .ok (.invokevirtual 44, 3) := by decide +kernel
theorem dL_law_452 : decode cL_law 452 = .ok (.aload_n 2, 1) := by decide +kernel
theorem dL_law_453 : decode cL_law 453 = .ok (.aload_n 0, 1) := by decide +kernel
theorem dL_law_454 : decode cL_law 454 = .ok (.iload_n 3, 1) := by decide +kernel
theorem dL_law_455 : decode cL_law 455 = .ok (.iconst 1, 1) := by decide +kernel
theorem dL_law_456 : decode cL_law 456 = .ok (.iadd, 1) := by decide +kernel
theorem dL_law_457 : decode cL_law 457 = .ok (.iaload, 1) := by decide +kernel
theorem dL_law_458 : decode cL_law 458 = .ok (.invokevirtual 47, 3) := by decide +kernel
theorem dL_law_461 : decode cL_law 461 = .ok (.if_icmp .eq 925, 3) := by decide +kernel
theorem dL_law_464 : decode cL_law 464 = .ok (.iconst 0, 1) := by decide +kernel
theorem dL_law_465 : decode cL_law 465 = .ok (.ireturn, 1) := by decide +kernel
theorem dL_law_466 : decode cL_law 466 = .ok (.aload_n 1, 1) := by decide +kernel
theorem dL_law_467 : decode cL_law 467 = .ok (.aload_n 0, 1) := by decide +kernel
theorem dL_law_468 : decode cL_law 468 = .ok (.iload_n 3, 1) := by decide +kernel
theorem dL_law_469 : decode cL_law 469 = .ok (.iconst 1, 1) := by decide +kernel
theorem dL_law_470 : decode cL_law 470 = .ok (.iadd, 1) := by decide +kernel
theorem dL_law_471 : decode cL_law 471 = .ok (.iaload, 1) := by decide +kernel
theorem dL_law_472 : decode cL_law 472 = .ok (.invokevirtual 48, 3) := by decide +kernel
theorem dL_law_475 : decode cL_law 475 = .ok (.aload_n 2, 1) := by decide +kernel
theorem dL_law_476 : decode cL_law 476 = .ok (.aload_n 0, 1) := by decide +kernel
theorem dL_law_477 : decode cL_law 477 = .ok (.iload_n 3, 1) := by decide +kernel
theorem dL_law_478 : decode cL_law 478 = .ok (.iconst 1, 1) := by decide +kernel
theorem dL_law_479 : decode cL_law 479 = .ok (.iadd, 1) := by decide +kernel
theorem dL_law_480 : decode cL_law 480 = .ok (.iaload, 1) := by decide +kernel
theorem dL_law_481 : decode cL_law 481 = .ok (.invokevirtual 51, 3) := by decide +kernel
theorem dL_law_484 : decode cL_law 484 = .ok (.if_icmp .eq 902, 3) := by decide +kernel
theorem dL_law_487 : decode cL_law 487 = .ok (.iconst 0, 1) := by decide +kernel
theorem dL_law_488 : decode cL_law 488 = .ok (.ireturn, 1) := by decide +kernel
theorem dL_law_489 : decode cL_law 489 = .ok (.aload_n 1, 1) := by decide +kernel
theorem dL_law_490 : decode cL_law 490 = .ok (.aload_n 0, 1) := by decide +kernel
theorem dL_law_491 : decode cL_law 491 = .ok (.iload_n 3, 1) := by decide +kernel
theorem dL_law_492 : decode cL_law 492 = .ok (.iconst 1, 1) := by decide +kernel
theorem dL_law_493 : decode cL_law 493 = .ok (.iadd, 1) := by decide +kernel
theorem dL_law_494 : decode cL_law 494 = .ok (.iaload, 1) := by decide +kernel
theorem dL_law_495 : decode cL_law 495 = .ok (.invokevirtual 52, 3) := by decide +kernel
theorem dL_law_498 : decode cL_law 498 = .ok (.aload_n 2, 1) := by decide +kernel
theorem dL_law_499 : decode cL_law 499 = .ok (.aload_n 0, 1) := by decide +kernel
theorem dL_law_500 : decode cL_law 500 = .ok (.iload_n 3, 1) := by decide +kernel
theorem dL_law_501 : decode cL_law 501 = .ok (.iconst 1, 1) := by decide +kernel
theorem dL_law_502 : decode cL_law 502 = .ok (.iadd, 1) := by decide +kernel
theorem dL_law_503 : decode cL_law 503 = .ok (.iaload, 1) := by decide +kernel
theorem dL_law_504 : decode cL_law 504 = .ok (.invokevirtual 55, 3) := by decide +kernel
theorem dL_law_507 : decode cL_law 507 = .ok (.if_icmp .eq 879, 3) := by decide +kernel
theorem dL_law_510 : decode cL_law 510 = .ok (.iconst 0, 1) := by decide +kernel
theorem dL_law_511 : decode cL_law 511 = .ok (.ireturn, 1) := by decide +kernel
theorem dL_law_512 : decode cL_law 512 = .ok (.aload_n 1, 1) := by decide +kernel
theorem dL_law_513 : decode cL_law 513 = .ok (.aload_n 0, 1) := by decide +kernel
theorem dL_law_514 : decode cL_law 514 = .ok (.iload_n 3, 1) := by decide +kernel
theorem dL_law_515 : decode cL_law 515 = .ok (.iconst 1, 1) := by decide +kernel
theorem dL_law_516 : decode cL_law 516 = .ok (.iadd, 1) := by decide +kernel
theorem dL_law_517 : decode cL_law 517 = .ok (.iaload, 1) := by decide +kernel
theorem dL_law_518 : decode cL_law 518 = .ok (.aload_n 0, 1) := by decide +kernel
theorem dL_law_519 : decode cL_law 519 = .ok (.iload_n 3, 1) := by decide +kernel
theorem dL_law_520 : decode cL_law 520 = .ok (.iconst 2, 1) := by decide +kernel
theorem dL_law_521 : decode cL_law 521 = .ok (.iadd, 1) := by decide +kernel
theorem dL_law_522 : decode cL_law 522 = .ok (.iaload, 1) := by decide +kernel
theorem dL_law_523 : decode cL_law 523 = .ok (.aload_n 0, 1) := by decide +kernel
theorem dL_law_524 : decode cL_law 524 = .ok (.iload_n 3, 1) := by decide +kernel
theorem dL_law_525 : decode cL_law 525 = .ok (.iconst 3, 1) := by decide +kernel
theorem dL_law_526 : decode cL_law 526 = .ok (.iadd, 1) := by decide +kernel
theorem dL_law_527 : decode cL_law 527 = .ok (.iaload, 1) := by decide +kernel
theorem dL_law_528 : decode cL_law 528 = .ok (.invokevirtual 56, 3) := by decide +kernel
theorem dL_law_531 : decode cL_law 531 = .ok (.aload_n 2, 1) := by decide +kernel
theorem dL_law_532 : decode cL_law 532 = .ok (.aload_n 0, 1) := by decide +kernel
theorem dL_law_533 : decode cL_law 533 = .ok (.iload_n 3, 1) := by decide +kernel
theorem dL_law_534 : decode cL_law 534 = .ok (.iconst 1, 1) := by decide +kernel
theorem dL_law_535 : decode cL_law 535 = .ok (.iadd, 1) := by decide +kernel
theorem dL_law_536 : decode cL_law 536 = .ok (.iaload, 1) := by decide +kernel
theorem dL_law_537 : decode cL_law 537 = .ok (.aload_n 0, 1) := by decide +kernel
theorem dL_law_538 : decode cL_law 538 = .ok (.iload_n 3, 1) := by decide +kernel
theorem dL_law_539 : decode cL_law 539 = .ok (.iconst 2, 1) := by decide +kernel
theorem dL_law_540 : decode cL_law 540 = .ok (.iadd, 1) := by decide +kernel
theorem dL_law_541 : decode cL_law 541 = .ok (.iaload, 1) := by decide +kernel
theorem dL_law_542 : decode cL_law 542 = .ok (.aload_n 0, 1) := by decide +kernel
theorem dL_law_543 : decode cL_law 543 = .ok (.iload_n 3, 1) := by decide +kernel
theorem dL_law_544 : decode cL_law 544 = .ok (.iconst 3, 1) := by decide +kernel
theorem dL_law_545 : decode cL_law 545 = .ok (.iadd, 1) := by decide +kernel
theorem dL_law_546 : decode cL_law 546 = .ok (.iaload, 1) := by decide +kernel
theorem dL_law_547 : decode cL_law 547 = .ok (.invokevirtual 59, 3) := by decide +kernel
theorem dL_law_550 : decode cL_law 550 = .ok (.if_icmp .eq 836, 3) := by decide +kernel
theorem dL_law_553 : decode cL_law 553 = .ok (.iconst 0, 1) := by decide +kernel
theorem dL_law_554 : decode cL_law 554 = .ok (.ireturn, 1) := by decide +kernel
theorem dL_law_555 : decode cL_law 555 = .ok (.aload_n 1, 1) := by decide +kernel
theorem dL_law_556 : decode cL_law 556 = .ok (.aload_n 0, 1) := by decide +kernel
theorem dL_law_557 : decode cL_law 557 = .ok (.iload_n 3, 1) := by decide +kernel
theorem dL_law_558 : decode cL_law 558 = .ok (.iconst 1, 1) := by decide +kernel
theorem dL_law_559 : decode cL_law 559 = .ok (.iadd, 1) := by decide +kernel
theorem dL_law_560 : decode cL_law 560 = .ok (.iaload, 1) := by decide +kernel
theorem dL_law_561 : decode cL_law 561 = .ok (.invokevirtual 60, 3) := by decide +kernel
theorem dL_law_564 : decode cL_law 564 = .ok (.aload_n 2, 1) := by decide +kernel
theorem dL_law_565 : decode cL_law 565 = .ok (.aload_n 0, 1) := by decide +kernel
theorem dL_law_566 : decode cL_law 566 = .ok (.iload_n 3, 1) := by decide +kernel
theorem dL_law_567 : decode cL_law 567 = .ok (.iconst 1, 1) := by decide +kernel
theorem dL_law_568 : decode cL_law 568 = .ok (.iadd, 1) := by decide +kernel
theorem dL_law_569 : decode cL_law 569 = .ok (.iaload, 1) := by decide +kernel
theorem dL_law_570 : decode cL_law 570 = .ok (.invokevirtual 63, 3) := by decide +kernel
theorem dL_law_573 : decode cL_law 573 = .ok (.if_icmp .eq 813, 3) := by decide +kernel
theorem dL_law_576 : decode cL_law 576 = .ok (.iconst 0, 1) := by decide +kernel
theorem dL_law_577 : decode cL_law 577 = .ok (.ireturn, 1) := by decide +kernel
theorem dL_law_578 : decode cL_law 578 = .ok (.aload_n 1, 1) := by decide +kernel
theorem dL_law_579 : decode cL_law 579 = .ok (.aload_n 0, 1) := by decide +kernel
theorem dL_law_580 : decode cL_law 580 = .ok (.iload_n 3, 1) := by decide +kernel
theorem dL_law_581 : decode cL_law 581 = .ok (.iconst 1, 1) := by decide +kernel
theorem dL_law_582 : decode cL_law 582 = .ok (.iadd, 1) := by decide +kernel
theorem dL_law_583 : decode cL_law 583 = .ok (.iaload, 1) := by decide +kernel
theorem dL_law_584 : decode cL_law 584 = .ok (.invokevirtual 64, 3) := by decide +kernel
theorem dL_law_587 : decode cL_law 587 = .ok (.aload_n 2, 1) := by decide +kernel
theorem dL_law_588 : decode cL_law 588 = .ok (.aload_n 0, 1) := by decide +kernel
theorem dL_law_589 : decode cL_law 589 = .ok (.iload_n 3, 1) := by decide +kernel
theorem dL_law_590 : decode cL_law 590 = .ok (.iconst 1, 1) := by decide +kernel
theorem dL_law_591 : decode cL_law 591 = .ok (.iadd, 1) := by decide +kernel
theorem dL_law_592 : decode cL_law 592 = .ok (.iaload, 1) := by decide +kernel
theorem dL_law_593 : decode cL_law 593 = .ok (.invokevirtual 67, 3) := by decide +kernel
theorem dL_law_596 : decode cL_law 596 = .ok (.if_icmp .eq 790, 3) := by decide +kernel
theorem dL_law_599 : decode cL_law 599 = .ok (.iconst 0, 1) := by decide +kernel
theorem dL_law_600 : decode cL_law 600 = .ok (.ireturn, 1) := by decide +kernel
theorem dL_law_601 : decode cL_law 601 = .ok (.aload_n 1, 1) := by decide +kernel
theorem dL_law_602 : decode cL_law 602 = .ok (.aload_n 0, 1) := by decide +kernel
theorem dL_law_603 : decode cL_law 603 = .ok (.iload_n 3, 1) := by decide +kernel
theorem dL_law_604 : decode cL_law 604 = .ok (.iconst 1, 1) := by decide +kernel
theorem dL_law_605 : decode cL_law 605 = .ok (.iadd, 1) := by decide +kernel
theorem dL_law_606 : decode cL_law 606 = .ok (.iaload, 1) := by decide +kernel
theorem dL_law_607 : decode cL_law 607 = .ok (.aload_n 0, 1) := by decide +kernel
theorem dL_law_608 : decode cL_law 608 = .ok (.iload_n 3, 1) := by decide +kernel
theorem dL_law_609 : decode cL_law 609 = .ok (.iconst 2, 1) := by decide +kernel
theorem dL_law_610 : decode cL_law 610 = .ok (.iadd, 1) := by decide +kernel
theorem dL_law_611 : decode cL_law 611 = .ok (.iaload, 1) := by decide +kernel
theorem dL_law_612 : decode cL_law 612 = .ok (.invokevirtual 68, 3) := by decide +kernel
theorem dL_law_615 : decode cL_law 615 = .ok (.aload_n 2, 1) := by decide +kernel
theorem dL_law_616 : decode cL_law 616 = .ok (.aload_n 0, 1) := by decide +kernel
theorem dL_law_617 : decode cL_law 617 = .ok (.iload_n 3, 1) := by decide +kernel
theorem dL_law_618 : decode cL_law 618 = .ok (.iconst 1, 1) := by decide +kernel
theorem dL_law_619 : decode cL_law 619 = .ok (.iadd, 1) := by decide +kernel
theorem dL_law_620 : decode cL_law 620 = .ok (.iaload, 1) := by decide +kernel
theorem dL_law_621 : decode cL_law 621 = .ok (.aload_n 0, 1) := by decide +kernel
theorem dL_law_622 : decode cL_law 622 = .ok (.iload_n 3, 1) := by decide +kernel
theorem dL_law_623 : decode cL_law 623 = .ok (.iconst 2, 1) := by decide +kernel
theorem dL_law_624 : decode cL_law 624 = .ok (.iadd, 1) := by decide +kernel
theorem dL_law_625 : decode cL_law 625 = .ok (.iaload, 1) := by decide +kernel
theorem dL_law_626 : decode cL_law 626 = .ok (.invokevirtual 71, 3) := by decide +kernel
theorem dL_law_629 : decode cL_law 629 = .ok (.if_icmp .eq 757, 3) := by decide +kernel
theorem dL_law_632 : decode cL_law 632 = .ok (.iconst 0, 1) := by decide +kernel
theorem dL_law_633 : decode cL_law 633 = .ok (.ireturn, 1) := by decide +kernel
theorem dL_law_634 : decode cL_law 634 = .ok (.aload_n 1, 1) := by decide +kernel
theorem dL_law_635 : decode cL_law 635 = .ok (.invokevirtual 72, 3) := by decide +kernel
theorem dL_law_638 : decode cL_law 638 = .ok (.aload_n 2, 1) := by decide +kernel
theorem dL_law_639 : decode cL_law 639 = .ok (.invokevirtual 76, 3) := by decide +kernel
theorem dL_law_642 : decode cL_law 642 = .ok (.if_icmp .eq 744, 3) := by decide +kernel
theorem dL_law_645 : decode cL_law 645 = .ok (.iconst 0, 1) := by decide +kernel
theorem dL_law_646 : decode cL_law 646 = .ok (.ireturn, 1) := by decide +kernel
theorem dL_law_647 : decode cL_law 647 = .ok (.aload_n 1, 1) := by decide +kernel
theorem dL_law_648 : decode cL_law 648 = .ok (.aload_n 0, 1) := by decide +kernel
theorem dL_law_649 : decode cL_law 649 = .ok (.iload_n 3, 1) := by decide +kernel
theorem dL_law_650 : decode cL_law 650 = .ok (.iconst 1, 1) := by decide +kernel
theorem dL_law_651 : decode cL_law 651 = .ok (.iadd, 1) := by decide +kernel
theorem dL_law_652 : decode cL_law 652 = .ok (.iaload, 1) := by decide +kernel
theorem dL_law_653 : decode cL_law 653 = .ok (.aload_n 0, 1) := by decide +kernel
theorem dL_law_654 : decode cL_law 654 = .ok (.iload_n 3, 1) := by decide +kernel
theorem dL_law_655 : decode cL_law 655 = .ok (.iconst 2, 1) := by decide +kernel
theorem dL_law_656 : decode cL_law 656 = .ok (.iadd, 1) := by decide +kernel
theorem dL_law_657 : decode cL_law 657 = .ok (.iaload, 1) := by decide +kernel
theorem dL_law_658 : decode cL_law 658 = .ok (.invokevirtual 77, 3) := by decide +kernel
theorem dL_law_661 : decode cL_law 661 = .ok (.aload_n 2, 1) := by decide +kernel
theorem dL_law_662 : decode cL_law 662 = .ok (.aload_n 0, 1) := by decide +kernel
theorem dL_law_663 : decode cL_law 663 = .ok (.iload_n 3, 1) := by decide +kernel
theorem dL_law_664 : decode cL_law 664 = .ok (.iconst 1, 1) := by decide +kernel
theorem dL_law_665 : decode cL_law 665 = .ok (.iadd, 1) := by decide +kernel
theorem dL_law_666 : decode cL_law 666 = .ok (.iaload, 1) := by decide +kernel
theorem dL_law_667 : decode cL_law 667 = .ok (.aload_n 0, 1) := by decide +kernel
theorem dL_law_668 : decode cL_law 668 = .ok (.iload_n 3, 1) := by decide +kernel
theorem dL_law_669 : decode cL_law 669 = .ok (.iconst 2, 1) := by decide +kernel
theorem dL_law_670 : decode cL_law 670 = .ok (.iadd, 1) := by decide +kernel
theorem dL_law_671 : decode cL_law 671 = .ok (.iaload, 1) := by decide +kernel
theorem dL_law_672 : decode cL_law 672 = .ok (.invokevirtual 80, 3) := by decide +kernel
theorem dL_law_675 : decode cL_law 675 = .ok (.if_icmp .eq 711, 3) := by decide +kernel
theorem dL_law_678 : decode cL_law 678 = .ok (.iconst 0, 1) := by decide +kernel
theorem dL_law_679 : decode cL_law 679 = .ok (.ireturn, 1) := by decide +kernel
theorem dL_law_680 : decode cL_law 680 = .ok (.aload_n 1, 1) := by decide +kernel
theorem dL_law_681 : decode cL_law 681 = .ok (.aload_n 0, 1) := by decide +kernel
theorem dL_law_682 : decode cL_law 682 = .ok (.iload_n 3, 1) := by decide +kernel
theorem dL_law_683 : decode cL_law 683 = .ok (.iconst 1, 1) := by decide +kernel
theorem dL_law_684 : decode cL_law 684 = .ok (.iadd, 1) := by decide +kernel
theorem dL_law_685 : decode cL_law 685 = .ok (.iaload, 1) := by decide +kernel
theorem dL_law_686 : decode cL_law 686 = .ok (.invokevirtual 81, 3) := by decide +kernel
theorem dL_law_689 : decode cL_law 689 = .ok (.aload_n 2, 1) := by decide +kernel
theorem dL_law_690 : decode cL_law 690 = .ok (.aload_n 0, 1) := by decide +kernel
theorem dL_law_691 : decode cL_law 691 = .ok (.iload_n 3, 1) := by decide +kernel
theorem dL_law_692 : decode cL_law 692 = .ok (.iconst 1, 1) := by decide +kernel
theorem dL_law_693 : decode cL_law 693 = .ok (.iadd, 1) := by decide +kernel
theorem dL_law_694 : decode cL_law 694 = .ok (.iaload, 1) := by decide +kernel
theorem dL_law_695 : decode cL_law 695 = .ok (.invokevirtual 84, 3) := by decide +kernel
theorem dL_law_698 : decode cL_law 698 = .ok (.if_icmp .eq 688, 3) := by decide +kernel
theorem dL_law_701 : decode cL_law 701 = .ok (.iconst 0, 1) := by decide +kernel
theorem dL_law_702 : decode cL_law 702 = .ok (.ireturn, 1) := by decide +kernel
theorem dL_law_703 : decode cL_law 703 = .ok (.aload_n 1, 1) := by decide +kernel
theorem dL_law_704 : decode cL_law 704 = .ok (.aload_n 0, 1) := by decide +kernel
theorem dL_law_705 : decode cL_law 705 = .ok (.iload_n 3, 1) := by decide +kernel
theorem dL_law_706 : decode cL_law 706 = .ok (.iconst 1, 1) := by decide +kernel
theorem dL_law_707 : decode cL_law 707 = .ok (.iadd, 1) := by decide +kernel
theorem dL_law_708 : decode cL_law 708 = .ok (.iaload, 1) := by decide +kernel
theorem dL_law_709 : decode cL_law 709 = .ok (.aload_n 0, 1) := by decide +kernel
theorem dL_law_710 : decode cL_law 710 = .ok (.iload_n 3, 1) := by decide +kernel
theorem dL_law_711 : decode cL_law 711 = .ok (.iconst 2, 1) := by decide +kernel
theorem dL_law_712 : decode cL_law 712 = .ok (.iadd, 1) := by decide +kernel
theorem dL_law_713 : decode cL_law 713 = .ok (.iaload, 1) := by decide +kernel
theorem dL_law_714 : decode cL_law 714 = .ok (.invokevirtual 85, 3) := by decide +kernel
theorem dL_law_717 : decode cL_law 717 = .ok (.aload_n 2, 1) := by decide +kernel
theorem dL_law_718 : decode cL_law 718 = .ok (.aload_n 0, 1) := by decide +kernel
theorem dL_law_719 : decode cL_law 719 = .ok (.iload_n 3, 1) := by decide +kernel
theorem dL_law_720 : decode cL_law 720 = .ok (.iconst 1, 1) := by decide +kernel
theorem dL_law_721 : decode cL_law 721 = .ok (.iadd, 1) := by decide +kernel
theorem dL_law_722 : decode cL_law 722 = .ok (.iaload, 1) := by decide +kernel
theorem dL_law_723 : decode cL_law 723 = .ok (.aload_n 0, 1) := by decide +kernel
theorem dL_law_724 : decode cL_law 724 = .ok (.iload_n 3, 1) := by decide +kernel
theorem dL_law_725 : decode cL_law 725 = .ok (.iconst 2, 1) := by decide +kernel
theorem dL_law_726 : decode cL_law 726 = .ok (.iadd, 1) := by decide +kernel
theorem dL_law_727 : decode cL_law 727 = .ok (.iaload, 1) := by decide +kernel
theorem dL_law_728 : decode cL_law 728 = .ok (.invokevirtual 88, 3) := by decide +kernel
theorem dL_law_731 : decode cL_law 731 = .ok (.if_icmp .eq 655, 3) := by decide +kernel
theorem dL_law_734 : decode cL_law 734 = .ok (.iconst 0, 1) := by decide +kernel
theorem dL_law_735 : decode cL_law 735 = .ok (.ireturn, 1) := by decide +kernel
theorem dL_law_736 : decode cL_law 736 = .ok (.aload_n 1, 1) := by decide +kernel
theorem dL_law_737 : decode cL_law 737 = .ok (.aload_n 0, 1) := by decide +kernel
theorem dL_law_738 : decode cL_law 738 = .ok (.iload_n 3, 1) := by decide +kernel
theorem dL_law_739 : decode cL_law 739 = .ok (.iconst 1, 1) := by decide +kernel
theorem dL_law_740 : decode cL_law 740 = .ok (.iadd, 1) := by decide +kernel
theorem dL_law_741 : decode cL_law 741 = .ok (.iaload, 1) := by decide +kernel
theorem dL_law_742 : decode cL_law 742 = .ok (.aload_n 0, 1) := by decide +kernel
theorem dL_law_743 : decode cL_law 743 = .ok (.iload_n 3, 1) := by decide +kernel
theorem dL_law_744 : decode cL_law 744 = .ok (.iconst 2, 1) := by decide +kernel
theorem dL_law_745 : decode cL_law 745 = .ok (.iadd, 1) := by decide +kernel
theorem dL_law_746 : decode cL_law 746 = .ok (.iaload, 1) := by decide +kernel
theorem dL_law_747 : decode cL_law 747 = .ok (.invokevirtual 89, 3) := by decide +kernel
theorem dL_law_750 : decode cL_law 750 = .ok (.aload_n 2, 1) := by decide +kernel
theorem dL_law_751 : decode cL_law 751 = .ok (.aload_n 0, 1) := by decide +kernel
theorem dL_law_752 : decode cL_law 752 = .ok (.iload_n 3, 1) := by decide +kernel
theorem dL_law_753 : decode cL_law 753 = .ok (.iconst 1, 1) := by decide +kernel
theorem dL_law_754 : decode cL_law 754 = .ok (.iadd, 1) := by decide +kernel
theorem dL_law_755 : decode cL_law 755 = .ok (.iaload, 1) := by decide +kernel
theorem dL_law_756 : decode cL_law 756 = .ok (.aload_n 0, 1) := by decide +kernel
theorem dL_law_757 : decode cL_law 757 = .ok (.iload_n 3, 1) := by decide +kernel
theorem dL_law_758 : decode cL_law 758 = .ok (.iconst 2, 1) := by decide +kernel
theorem dL_law_759 : decode cL_law 759 = .ok (.iadd, 1) := by decide +kernel
theorem dL_law_760 : decode cL_law 760 = .ok (.iaload, 1) := by decide +kernel
theorem dL_law_761 : decode cL_law 761 = .ok (.invokevirtual 92, 3) := by decide +kernel
theorem dL_law_764 : decode cL_law 764 = .ok (.if_icmp .eq 622, 3) := by decide +kernel
theorem dL_law_767 : decode cL_law 767 = .ok (.iconst 0, 1) := by decide +kernel
theorem dL_law_768 : decode cL_law 768 = .ok (.ireturn, 1) := by decide +kernel
theorem dL_law_769 : decode cL_law 769 = .ok (.aload_n 1, 1) := by decide +kernel
theorem dL_law_770 : decode cL_law 770 = .ok (.aload_n 0, 1) := by decide +kernel
theorem dL_law_771 : decode cL_law 771 = .ok (.iload_n 3, 1) := by decide +kernel
theorem dL_law_772 : decode cL_law 772 = .ok (.iconst 1, 1) := by decide +kernel
theorem dL_law_773 : decode cL_law 773 = .ok (.iadd, 1) := by decide +kernel
theorem dL_law_774 : decode cL_law 774 = .ok (.iaload, 1) := by decide +kernel
theorem dL_law_775 : decode cL_law 775 = .ok (.invokevirtual 93, 3) := by decide +kernel
theorem dL_law_778 : decode cL_law 778 = .ok (.aload_n 2, 1) := by decide +kernel
theorem dL_law_779 : decode cL_law 779 = .ok (.aload_n 0, 1) := by decide +kernel
theorem dL_law_780 : decode cL_law 780 = .ok (.iload_n 3, 1) := by decide +kernel
theorem dL_law_781 : decode cL_law 781 = .ok (.iconst 1, 1) := by decide +kernel
theorem dL_law_782 : decode cL_law 782 = .ok (.iadd, 1) := by decide +kernel
theorem dL_law_783 : decode cL_law 783 = .ok (.iaload, 1) := by decide +kernel
theorem dL_law_784 : decode cL_law 784 = .ok (.invokevirtual 96, 3) := by decide +kernel
theorem dL_law_787 : decode cL_law 787 = .ok (.if_icmp .eq 599, 3) := by decide +kernel
theorem dL_law_790 : decode cL_law 790 = .ok (.iconst 0, 1) := by decide +kernel
theorem dL_law_791 : decode cL_law 791 = .ok (.ireturn, 1) := by decide +kernel
theorem dL_law_792 : decode cL_law 792 = .ok (.aload_n 1, 1) := by decide +kernel
theorem dL_law_793 : decode cL_law 793 = .ok (.aload_n 0, 1) := by decide +kernel
theorem dL_law_794 : decode cL_law 794 = .ok (.iload_n 3, 1) := by decide +kernel
theorem dL_law_795 : decode cL_law 795 = .ok (.iconst 1, 1) := by decide +kernel
theorem dL_law_796 : decode cL_law 796 = .ok (.iadd, 1) := by decide +kernel
theorem dL_law_797 : decode cL_law 797 = .ok (.iaload, 1) := by decide +kernel
theorem dL_law_798 : decode cL_law 798 = .ok (.aload_n 0, 1) := by decide +kernel
theorem dL_law_799 : decode cL_law 799 = .ok (.iload_n 3, 1) := by decide +kernel
theorem dL_law_800 : decode cL_law 800 = .ok (.iconst 2, 1) := by decide +kernel
theorem dL_law_801 : decode cL_law 801 = .ok (.iadd, 1) := by decide +kernel
theorem dL_law_802 : decode cL_law 802 = .ok (.iaload, 1) := by decide +kernel
theorem dL_law_803 : decode cL_law 803 = .ok (.invokevirtual 97, 3) := by decide +kernel
theorem dL_law_806 : decode cL_law 806 = .ok (.aload_n 2, 1) := by decide +kernel
theorem dL_law_807 : decode cL_law 807 = .ok (.aload_n 0, 1) := by decide +kernel
theorem dL_law_808 : decode cL_law 808 = .ok (.iload_n 3, 1) := by decide +kernel
theorem dL_law_809 : decode cL_law 809 = .ok (.iconst 1, 1) := by decide +kernel
theorem dL_law_810 : decode cL_law 810 = .ok (.iadd, 1) := by decide +kernel
theorem dL_law_811 : decode cL_law 811 = .ok (.iaload, 1) := by decide +kernel
theorem dL_law_812 : decode cL_law 812 = .ok (.aload_n 0, 1) := by decide +kernel
theorem dL_law_813 : decode cL_law 813 = .ok (.iload_n 3, 1) := by decide +kernel
theorem dL_law_814 : decode cL_law 814 = .ok (.iconst 2, 1) := by decide +kernel
theorem dL_law_815 : decode cL_law 815 = .ok (.iadd, 1) := by decide +kernel
theorem dL_law_816 : decode cL_law 816 = .ok (.iaload, 1) := by decide +kernel
theorem dL_law_817 : decode cL_law 817 = .ok (.invokevirtual 100, 3) := by decide +kernel
theorem dL_law_820 : decode cL_law 820 = .ok (.if_icmp .eq 566, 3) := by decide +kernel
theorem dL_law_823 : decode cL_law 823 = .ok (.iconst 0, 1) := by decide +kernel
theorem dL_law_824 : decode cL_law 824 = .ok (.ireturn, 1) := by decide +kernel
theorem dL_law_825 : decode cL_law 825 = .ok (.aload_n 1, 1) := by decide +kernel
theorem dL_law_826 : decode cL_law 826 = .ok (.aload_n 0, 1) := by decide +kernel
theorem dL_law_827 : decode cL_law 827 = .ok (.iload_n 3, 1) := by decide +kernel
theorem dL_law_828 : decode cL_law 828 = .ok (.iconst 1, 1) := by decide +kernel
theorem dL_law_829 : decode cL_law 829 = .ok (.iadd, 1) := by decide +kernel
theorem dL_law_830 : decode cL_law 830 = .ok (.iaload, 1) := by decide +kernel
theorem dL_law_831 : decode cL_law 831 = .ok (.aload_n 0, 1) := by decide +kernel
theorem dL_law_832 : decode cL_law 832 = .ok (.iload_n 3, 1) := by decide +kernel
theorem dL_law_833 : decode cL_law 833 = .ok (.iconst 2, 1) := by decide +kernel
theorem dL_law_834 : decode cL_law 834 = .ok (.iadd, 1) := by decide +kernel
theorem dL_law_835 : decode cL_law 835 = .ok (.iaload, 1) := by decide +kernel
theorem dL_law_836 : decode cL_law 836 = .ok (.invokevirtual 101, 3) := by decide +kernel
theorem dL_law_839 : decode cL_law 839 = .ok (.aload_n 2, 1) := by decide +kernel
theorem dL_law_840 : decode cL_law 840 = .ok (.aload_n 0, 1) := by decide +kernel
theorem dL_law_841 : decode cL_law 841 = .ok (.iload_n 3, 1) := by decide +kernel
theorem dL_law_842 : decode cL_law 842 = .ok (.iconst 1, 1) := by decide +kernel
theorem dL_law_843 : decode cL_law 843 = .ok (.iadd, 1) := by decide +kernel
theorem dL_law_844 : decode cL_law 844 = .ok (.iaload, 1) := by decide +kernel
theorem dL_law_845 : decode cL_law 845 = .ok (.aload_n 0, 1) := by decide +kernel
theorem dL_law_846 : decode cL_law 846 = .ok (.iload_n 3, 1) := by decide +kernel
theorem dL_law_847 : decode cL_law 847 = .ok (.iconst 2, 1) := by decide +kernel
theorem dL_law_848 : decode cL_law 848 = .ok (.iadd, 1) := by decide +kernel
theorem dL_law_849 : decode cL_law 849 = .ok (.iaload, 1) := by decide +kernel
theorem dL_law_850 : decode cL_law 850 = .ok (.invokevirtual 104, 3) := by decide +kernel
theorem dL_law_853 : decode cL_law 853 = .ok (.if_icmp .eq 533, 3) := by decide +kernel
theorem dL_law_856 : decode cL_law 856 = .ok (.iconst 0, 1) := by decide +kernel
theorem dL_law_857 : decode cL_law 857 = .ok (.ireturn, 1) := by decide +kernel
theorem dL_law_858 : decode cL_law 858 = .ok (.aload_n 1, 1) := by decide +kernel
theorem dL_law_859 : decode cL_law 859 = .ok (.aload_n 0, 1) := by decide +kernel
theorem dL_law_860 : decode cL_law 860 = .ok (.iload_n 3, 1) := by decide +kernel
theorem dL_law_861 : decode cL_law 861 = .ok (.iconst 1, 1) := by decide +kernel
theorem dL_law_862 : decode cL_law 862 = .ok (.iadd, 1) := by decide +kernel
theorem dL_law_863 : decode cL_law 863 = .ok (.iaload, 1) := by decide +kernel
theorem dL_law_864 : decode cL_law 864 = .ok (.aload_n 0, 1) := by decide +kernel
theorem dL_law_865 : decode cL_law 865 = .ok (.iload_n 3, 1) := by decide +kernel
theorem dL_law_866 : decode cL_law 866 = .ok (.iconst 2, 1) := by decide +kernel
theorem dL_law_867 : decode cL_law 867 = .ok (.iadd, 1) := by decide +kernel
theorem dL_law_868 : decode cL_law 868 = .ok (.iaload, 1) := by decide +kernel
theorem dL_law_869 : decode cL_law 869 = .ok (.invokevirtual 105, 3) := by decide +kernel
theorem dL_law_872 : decode cL_law 872 = .ok (.aload_n 2, 1) := by decide +kernel
theorem dL_law_873 : decode cL_law 873 = .ok (.aload_n 0, 1) := by decide +kernel
theorem dL_law_874 : decode cL_law 874 = .ok (.iload_n 3, 1) := by decide +kernel
theorem dL_law_875 : decode cL_law 875 = .ok (.iconst 1, 1) := by decide +kernel
theorem dL_law_876 : decode cL_law 876 = .ok (.iadd, 1) := by decide +kernel
theorem dL_law_877 : decode cL_law 877 = .ok (.iaload, 1) := by decide +kernel
theorem dL_law_878 : decode cL_law 878 = .ok (.aload_n 0, 1) := by decide +kernel
theorem dL_law_879 : decode cL_law 879 = .ok (.iload_n 3, 1) := by decide +kernel
theorem dL_law_880 : decode cL_law 880 = .ok (.iconst 2, 1) := by decide +kernel
theorem dL_law_881 : decode cL_law 881 = .ok (.iadd, 1) := by decide +kernel
theorem dL_law_882 : decode cL_law 882 = .ok (.iaload, 1) := by decide +kernel
theorem dL_law_883 : decode cL_law 883 = .ok (.invokevirtual 108, 3) := by decide +kernel
theorem dL_law_886 : decode cL_law 886 = .ok (.if_icmp .eq 500, 3) := by decide +kernel
theorem dL_law_889 : decode cL_law 889 = .ok (.iconst 0, 1) := by decide +kernel
theorem dL_law_890 : decode cL_law 890 = .ok (.ireturn, 1) := by decide +kernel
theorem dL_law_891 : decode cL_law 891 = .ok (.aload_n 1, 1) := by decide +kernel
theorem dL_law_892 : decode cL_law 892 = .ok (.aload_n 0, 1) := by decide +kernel
theorem dL_law_893 : decode cL_law 893 = .ok (.iload_n 3, 1) := by decide +kernel
theorem dL_law_894 : decode cL_law 894 = .ok (.iconst 1, 1) := by decide +kernel
theorem dL_law_895 : decode cL_law 895 = .ok (.iadd, 1) := by decide +kernel
theorem dL_law_896 : decode cL_law 896 = .ok (.iaload, 1) := by decide +kernel
theorem dL_law_897 : decode cL_law 897 = .ok (.invokevirtual 109, 3) := by decide +kernel
theorem dL_law_900 : decode cL_law 900 = .ok (.aload_n 2, 1) := by decide +kernel
theorem dL_law_901 : decode cL_law 901 = .ok (.aload_n 0, 1) := by decide +kernel
theorem dL_law_902 : decode cL_law 902 = .ok (.iload_n 3, 1) := by decide +kernel
theorem dL_law_903 : decode cL_law 903 = .ok (.iconst 1, 1) := by decide +kernel
theorem dL_law_904 : decode cL_law 904 = .ok (.iadd, 1) := by decide +kernel
theorem dL_law_905 : decode cL_law 905 = .ok (.iaload, 1) := by decide +kernel
theorem dL_law_906 : decode cL_law 906 = .ok (.invokevirtual 112, 3) := by decide +kernel
theorem dL_law_909 : decode cL_law 909 = .ok (.if_icmp .eq 477, 3) := by decide +kernel
theorem dL_law_912 : decode cL_law 912 = .ok (.iconst 0, 1) := by decide +kernel
theorem dL_law_913 : decode cL_law 913 = .ok (.ireturn, 1) := by decide +kernel
theorem dL_law_914 : decode cL_law 914 = .ok (.aload_n 1, 1) := by decide +kernel
theorem dL_law_915 : decode cL_law 915 = .ok (.aload_n 0, 1) := by decide +kernel
theorem dL_law_916 : decode cL_law 916 = .ok (.iload_n 3, 1) := by decide +kernel
theorem dL_law_917 : decode cL_law 917 = .ok (.iconst 1, 1) := by decide +kernel
theorem dL_law_918 : decode cL_law 918 = .ok (.iadd, 1) := by decide +kernel
theorem dL_law_919 : decode cL_law 919 = .ok (.iaload, 1) := by decide +kernel
theorem dL_law_920 : decode cL_law 920 = .ok (.aload_n 0, 1) := by decide +kernel
theorem dL_law_921 : decode cL_law 921 = .ok (.iload_n 3, 1) := by decide +kernel
theorem dL_law_922 : decode cL_law 922 = .ok (.iconst 2, 1) := by decide +kernel
theorem dL_law_923 : decode cL_law 923 = .ok (.iadd, 1) := by decide +kernel
theorem dL_law_924 : decode cL_law 924 = .ok (.iaload, 1) := by decide +kernel
theorem dL_law_925 : decode cL_law 925 = .ok (.aload_n 0, 1) := by decide +kernel
theorem dL_law_926 : decode cL_law 926 = .ok (.iload_n 3, 1) := by decide +kernel
theorem dL_law_927 : decode cL_law 927 = .ok (.iconst 3, 1) := by decide +kernel
theorem dL_law_928 : decode cL_law 928 = .ok (.iadd, 1) := by decide +kernel
theorem dL_law_929 : decode cL_law 929 = .ok (.iaload, 1) := by decide +kernel
theorem dL_law_930 : decode cL_law 930 = .ok (.invokevirtual 113, 3) := by decide +kernel
theorem dL_law_933 : decode cL_law 933 = .ok (.aload_n 2, 1) := by decide +kernel
theorem dL_law_934 : decode cL_law 934 = .ok (.aload_n 0, 1) := by decide +kernel
theorem dL_law_935 : decode cL_law 935 = .ok (.iload_n 3, 1) := by decide +kernel
theorem dL_law_936 : decode cL_law 936 = .ok (.iconst 1, 1) := by decide +kernel
theorem dL_law_937 : decode cL_law 937 = .ok (.iadd, 1) := by decide +kernel
theorem dL_law_938 : decode cL_law 938 = .ok (.iaload, 1) := by decide +kernel
theorem dL_law_939 : decode cL_law 939 = .ok (.aload_n 0, 1) := by decide +kernel
theorem dL_law_940 : decode cL_law 940 = .ok (.iload_n 3, 1) := by decide +kernel
theorem dL_law_941 : decode cL_law 941 = .ok (.iconst 2, 1) := by decide +kernel
theorem dL_law_942 : decode cL_law 942 = .ok (.iadd, 1) := by decide +kernel
theorem dL_law_943 : decode cL_law 943 = .ok (.iaload, 1) := by decide +kernel
theorem dL_law_944 : decode cL_law 944 = .ok (.aload_n 0, 1) := by decide +kernel
theorem dL_law_945 : decode cL_law 945 = .ok (.iload_n 3, 1) := by decide +kernel
theorem dL_law_946 : decode cL_law 946 = .ok (.iconst 3, 1) := by decide +kernel
theorem dL_law_947 : decode cL_law 947 = .ok (.iadd, 1) := by decide +kernel
theorem dL_law_948 : decode cL_law 948 = .ok (.iaload, 1) := by decide +kernel
theorem dL_law_949 : decode cL_law 949 = .ok (.invokevirtual 117, 3) := by decide +kernel
theorem dL_law_952 : decode cL_law 952 = .ok (.lcmp, 1) := by decide +kernel
theorem dL_law_953 : decode cL_law 953 = .ok (.ifCond .eq 433, 3) := by decide +kernel
theorem dL_law_956 : decode cL_law 956 = .ok (.iconst 0, 1) := by decide +kernel
theorem dL_law_957 : decode cL_law 957 = .ok (.ireturn, 1) := by decide +kernel
theorem dL_law_958 : decode cL_law 958 = .ok (.aload_n 1, 1) := by decide +kernel
theorem dL_law_959 : decode cL_law 959 = .ok (.aload_n 0, 1) := by decide +kernel
theorem dL_law_960 : decode cL_law 960 = .ok (.iload_n 3, 1) := by decide +kernel
theorem dL_law_961 : decode cL_law 961 = .ok (.iconst 1, 1) := by decide +kernel
theorem dL_law_962 : decode cL_law 962 = .ok (.iadd, 1) := by decide +kernel
theorem dL_law_963 : decode cL_law 963 = .ok (.iaload, 1) := by decide +kernel
theorem dL_law_964 : decode cL_law 964 = .ok (.invokevirtual 118, 3) := by decide +kernel
theorem dL_law_967 : decode cL_law 967 = .ok (.aload_n 2, 1) := by decide +kernel
theorem dL_law_968 : decode cL_law 968 = .ok (.aload_n 0, 1) := by decide +kernel
theorem dL_law_969 : decode cL_law 969 = .ok (.iload_n 3, 1) := by decide +kernel
theorem dL_law_970 : decode cL_law 970 = .ok (.iconst 1, 1) := by decide +kernel
theorem dL_law_971 : decode cL_law 971 = .ok (.iadd, 1) := by decide +kernel
theorem dL_law_972 : decode cL_law 972 = .ok (.iaload, 1) := by decide +kernel
theorem dL_law_973 : decode cL_law 973 = .ok (.invokevirtual 121, 3) := by decide +kernel
theorem dL_law_976 : decode cL_law 976 = .ok (.if_icmp .eq 410, 3) := by decide +kernel
theorem dL_law_979 : decode cL_law 979 = .ok (.iconst 0, 1) := by decide +kernel
theorem dL_law_980 : decode cL_law 980 = .ok (.ireturn, 1) := by decide +kernel
theorem dL_law_981 : decode cL_law 981 = .ok (.aload_n 1, 1) := by decide +kernel
theorem dL_law_982 : decode cL_law 982 = .ok (.aload_n 0, 1) := by decide +kernel
theorem dL_law_983 : decode cL_law 983 = .ok (.iload_n 3, 1) := by decide +kernel
theorem dL_law_984 : decode cL_law 984 = .ok (.iconst 1, 1) := by decide +kernel
theorem dL_law_985 : decode cL_law 985 = .ok (.iadd, 1) := by decide +kernel
theorem dL_law_986 : decode cL_law 986 = .ok (.iaload, 1) := by decide +kernel
theorem dL_law_987 : decode cL_law 987 = .ok (.aload_n 0, 1) := by decide +kernel
theorem dL_law_988 : decode cL_law 988 = .ok (.iload_n 3, 1) := by decide +kernel
theorem dL_law_989 : decode cL_law 989 = .ok (.iconst 2, 1) := by decide +kernel
theorem dL_law_990 : decode cL_law 990 = .ok (.iadd, 1) := by decide +kernel
theorem dL_law_991 : decode cL_law 991 = .ok (.iaload, 1) := by decide +kernel
theorem dL_law_992 : decode cL_law 992 = .ok (.invokevirtual 122, 3) := by decide +kernel
theorem dL_law_995 : decode cL_law 995 = .ok (.aload_n 2, 1) := by decide +kernel
theorem dL_law_996 : decode cL_law 996 = .ok (.aload_n 0, 1) := by decide +kernel
theorem dL_law_997 : decode cL_law 997 = .ok (.iload_n 3, 1) := by decide +kernel
theorem dL_law_998 : decode cL_law 998 = .ok (.iconst 1, 1) := by decide +kernel
theorem dL_law_999 : decode cL_law 999 = .ok (.iadd, 1) := by decide +kernel
theorem dL_law_1000 : decode cL_law 1000 = .ok (.iaload, 1) := by decide +kernel
theorem dL_law_1001 : decode cL_law 1001 = .ok (.aload_n 0, 1) := by decide +kernel
theorem dL_law_1002 : decode cL_law 1002 = .ok (.iload_n 3, 1) := by decide +kernel
theorem dL_law_1003 : decode cL_law 1003 = .ok (.iconst 2, 1) := by decide +kernel
theorem dL_law_1004 : decode cL_law 1004 = .ok (.iadd, 1) := by decide +kernel
theorem dL_law_1005 : decode cL_law 1005 = .ok (.iaload, 1) := by decide +kernel
theorem dL_law_1006 : decode cL_law 1006 = .ok (.invokevirtual 125, 3) := by decide +kernel
theorem dL_law_1009 : decode cL_law 1009 = .ok (.if_icmp .eq 377, 3) := by decide +kernel
theorem dL_law_1012 : decode cL_law 1012 = .ok (.iconst 0, 1) := by decide +kernel
theorem dL_law_1013 : decode cL_law 1013 = .ok (.ireturn, 1) := by decide +kernel
theorem dL_law_1014 : decode cL_law 1014 = .ok (.aload_n 1, 1) := by decide +kernel
theorem dL_law_1015 : decode cL_law 1015 = .ok (.invokevirtual 126, 3) := by decide +kernel
theorem dL_law_1018 : decode cL_law 1018 = .ok (.aload_n 2, 1) := by decide +kernel
theorem dL_law_1019 : decode cL_law 1019 = .ok (.invokevirtual 129, 3) := by decide +kernel
theorem dL_law_1022 : decode cL_law 1022 = .ok (.if_icmp .eq 364, 3) := by decide +kernel
theorem dL_law_1025 : decode cL_law 1025 = .ok (.iconst 0, 1) := by decide +kernel
theorem dL_law_1026 : decode cL_law 1026 = .ok (.ireturn, 1) := by decide +kernel
theorem dL_law_1027 : decode cL_law 1027 = .ok (.aload_n 1, 1) := by decide +kernel
theorem dL_law_1028 : decode cL_law 1028 = .ok (.invokevirtual 130, 3) := by decide +kernel
theorem dL_law_1031 : decode cL_law 1031 = .ok (.aload_n 2, 1) := by decide +kernel
theorem dL_law_1032 : decode cL_law 1032 = .ok (.invokevirtual 133, 3) := by decide +kernel
theorem dL_law_1035 : decode cL_law 1035 = .ok (.if_icmp .eq 351, 3) := by decide +kernel
theorem dL_law_1038 : decode cL_law 1038 = .ok (.iconst 0, 1) := by decide +kernel
theorem dL_law_1039 : decode cL_law 1039 = .ok (.ireturn, 1) := by decide +kernel
theorem dL_law_1040 : decode cL_law 1040 = .ok (.aload_n 1, 1) := by decide +kernel
theorem dL_law_1041 : decode cL_law 1041 = .ok (.aload_n 0, 1) := by decide +kernel
theorem dL_law_1042 : decode cL_law 1042 = .ok (.iload_n 3, 1) := by decide +kernel
theorem dL_law_1043 : decode cL_law 1043 = .ok (.iconst 1, 1) := by decide +kernel
theorem dL_law_1044 : decode cL_law 1044 = .ok (.iadd, 1) := by decide +kernel
theorem dL_law_1045 : decode cL_law 1045 = .ok (.iaload, 1) := by decide +kernel
theorem dL_law_1046 : decode cL_law 1046 = .ok (.aload_n 0, 1) := by decide +kernel
theorem dL_law_1047 : decode cL_law 1047 = .ok (.iload_n 3, 1) := by decide +kernel
theorem dL_law_1048 : decode cL_law 1048 = .ok (.iconst 2, 1) := by decide +kernel
theorem dL_law_1049 : decode cL_law 1049 = .ok (.iadd, 1) := by decide +kernel
theorem dL_law_1050 : decode cL_law 1050 = .ok (.iaload, 1) := by decide +kernel
theorem dL_law_1051 : decode cL_law 1051 = .ok (.invokevirtual 134, 3) := by decide +kernel
theorem dL_law_1054 : decode cL_law 1054 = .ok (.aload_n 2, 1) := by decide +kernel
theorem dL_law_1055 : decode cL_law 1055 = .ok (.aload_n 0, 1) := by decide +kernel
theorem dL_law_1056 : decode cL_law 1056 = .ok (.iload_n 3, 1) := by decide +kernel
theorem dL_law_1057 : decode cL_law 1057 = .ok (.iconst 1, 1) := by decide +kernel
theorem dL_law_1058 : decode cL_law 1058 = .ok (.iadd, 1) := by decide +kernel
theorem dL_law_1059 : decode cL_law 1059 = .ok (.iaload, 1) := by decide +kernel
theorem dL_law_1060 : decode cL_law 1060 = .ok (.aload_n 0, 1) := by decide +kernel
theorem dL_law_1061 : decode cL_law 1061 = .ok (.iload_n 3, 1) := by decide +kernel
theorem dL_law_1062 : decode cL_law 1062 = .ok (.iconst 2, 1) := by decide +kernel
theorem dL_law_1063 : decode cL_law 1063 = .ok (.iadd, 1) := by decide +kernel
theorem dL_law_1064 : decode cL_law 1064 = .ok (.iaload, 1) := by decide +kernel
theorem dL_law_1065 : decode cL_law 1065 = .ok (.invokevirtual 137, 3) := by decide +kernel
theorem dL_law_1068 : decode cL_law 1068 = .ok (.if_icmp .eq 318, 3) := by decide +kernel
theorem dL_law_1071 : decode cL_law 1071 = .ok (.iconst 0, 1) := by decide +kernel
theorem dL_law_1072 : decode cL_law 1072 = .ok (.ireturn, 1) := by decide +kernel
theorem dL_law_1073 : decode cL_law 1073 = .ok (.aload_n 1, 1) := by decide +kernel
theorem dL_law_1074 : decode cL_law 1074 = .ok (.aload_n 0, 1) := by decide +kernel
theorem dL_law_1075 : decode cL_law 1075 = .ok (.iload_n 3, 1) := by decide +kernel
theorem dL_law_1076 : decode cL_law 1076 = .ok (.iconst 1, 1) := by decide +kernel
theorem dL_law_1077 : decode cL_law 1077 = .ok (.iadd, 1) := by decide +kernel
theorem dL_law_1078 : decode cL_law 1078 = .ok (.iaload, 1) := by decide +kernel
theorem dL_law_1079 : decode cL_law 1079 = .ok (.aload_n 0, 1) := by decide +kernel
theorem dL_law_1080 : decode cL_law 1080 = .ok (.iload_n 3, 1) := by decide +kernel
theorem dL_law_1081 : decode cL_law 1081 = .ok (.iconst 2, 1) := by decide +kernel
theorem dL_law_1082 : decode cL_law 1082 = .ok (.iadd, 1) := by decide +kernel
theorem dL_law_1083 : decode cL_law 1083 = .ok (.iaload, 1) := by decide +kernel
theorem dL_law_1084 : decode cL_law 1084 = .ok (.invokevirtual 138, 3) := by decide +kernel
theorem dL_law_1087 : decode cL_law 1087 = .ok (.aload_n 2, 1) := by decide +kernel
theorem dL_law_1088 : decode cL_law 1088 = .ok (.aload_n 0, 1) := by decide +kernel
theorem dL_law_1089 : decode cL_law 1089 = .ok (.iload_n 3, 1) := by decide +kernel
theorem dL_law_1090 : decode cL_law 1090 = .ok (.iconst 1, 1) := by decide +kernel
theorem dL_law_1091 : decode cL_law 1091 = .ok (.iadd, 1) := by decide +kernel
theorem dL_law_1092 : decode cL_law 1092 = .ok (.iaload, 1) := by decide +kernel
theorem dL_law_1093 : decode cL_law 1093 = .ok (.aload_n 0, 1) := by decide +kernel
theorem dL_law_1094 : decode cL_law 1094 = .ok (.iload_n 3, 1) := by decide +kernel
theorem dL_law_1095 : decode cL_law 1095 = .ok (.iconst 2, 1) := by decide +kernel
theorem dL_law_1096 : decode cL_law 1096 = .ok (.iadd, 1) := by decide +kernel
theorem dL_law_1097 : decode cL_law 1097 = .ok (.iaload, 1) := by decide +kernel
theorem dL_law_1098 : decode cL_law 1098 = .ok (.invokevirtual 141, 3) := by decide +kernel
theorem dL_law_1101 : decode cL_law 1101 = .ok (.if_icmp .eq 285, 3) := by decide +kernel
theorem dL_law_1104 : decode cL_law 1104 = .ok (.iconst 0, 1) := by decide +kernel
theorem dL_law_1105 : decode cL_law 1105 = .ok (.ireturn, 1) := by decide +kernel
theorem dL_law_1106 : decode cL_law 1106 = .ok (.aload_n 1, 1) := by decide +kernel
theorem dL_law_1107 : decode cL_law 1107 = .ok (.aload_n 0, 1) := by decide +kernel
theorem dL_law_1108 : decode cL_law 1108 = .ok (.iload_n 3, 1) := by decide +kernel
theorem dL_law_1109 : decode cL_law 1109 = .ok (.iconst 1, 1) := by decide +kernel
theorem dL_law_1110 : decode cL_law 1110 = .ok (.iadd, 1) := by decide +kernel
theorem dL_law_1111 : decode cL_law 1111 = .ok (.iaload, 1) := by decide +kernel
theorem dL_law_1112 : decode cL_law 1112 = .ok (.aload_n 0, 1) := by decide +kernel
theorem dL_law_1113 : decode cL_law 1113 = .ok (.iload_n 3, 1) := by decide +kernel
theorem dL_law_1114 : decode cL_law 1114 = .ok (.iconst 2, 1) := by decide +kernel
theorem dL_law_1115 : decode cL_law 1115 = .ok (.iadd, 1) := by decide +kernel
theorem dL_law_1116 : decode cL_law 1116 = .ok (.iaload, 1) := by decide +kernel
theorem dL_law_1117 : decode cL_law 1117 = .ok (.aload_n 0, 1) := by decide +kernel
theorem dL_law_1118 : decode cL_law 1118 = .ok (.iload_n 3, 1) := by decide +kernel
theorem dL_law_1119 : decode cL_law 1119 = .ok (.iconst 3, 1) := by decide +kernel
theorem dL_law_1120 : decode cL_law 1120 = .ok (.iadd, 1) := by decide +kernel
theorem dL_law_1121 : decode cL_law 1121 = .ok (.iaload, 1) := by decide +kernel
theorem dL_law_1122 : decode cL_law 1122 = .ok (.invokevirtual 142, 3) := by decide +kernel
theorem dL_law_1125 : decode cL_law 1125 = .ok (.aload_n 2, 1) := by decide +kernel
theorem dL_law_1126 : decode cL_law 1126 = .ok (.aload_n 0, 1) := by decide +kernel
theorem dL_law_1127 : decode cL_law 1127 = .ok (.iload_n 3, 1) := by decide +kernel
theorem dL_law_1128 : decode cL_law 1128 = .ok (.iconst 1, 1) := by decide +kernel
theorem dL_law_1129 : decode cL_law 1129 = .ok (.iadd, 1) := by decide +kernel
theorem dL_law_1130 : decode cL_law 1130 = .ok (.iaload, 1) := by decide +kernel
theorem dL_law_1131 : decode cL_law 1131 = .ok (.aload_n 0, 1) := by decide +kernel
theorem dL_law_1132 : decode cL_law 1132 = .ok (.iload_n 3, 1) := by decide +kernel
theorem dL_law_1133 : decode cL_law 1133 = .ok (.iconst 2, 1) := by decide +kernel
theorem dL_law_1134 : decode cL_law 1134 = .ok (.iadd, 1) := by decide +kernel
theorem dL_law_1135 : decode cL_law 1135 = .ok (.iaload, 1) := by decide +kernel
theorem dL_law_1136 : decode cL_law 1136 = .ok (.aload_n 0, 1) := by decide +kernel
theorem dL_law_1137 : decode cL_law 1137 = .ok (.iload_n 3, 1) := by decide +kernel
theorem dL_law_1138 : decode cL_law 1138 = .ok (.iconst 3, 1) := by decide +kernel
theorem dL_law_1139 : decode cL_law 1139 = .ok (.iadd, 1) := by decide +kernel
theorem dL_law_1140 : decode cL_law 1140 = .ok (.iaload, 1) := by decide +kernel
theorem dL_law_1141 : decode cL_law 1141 = .ok (.invokevirtual 145, 3) := by decide +kernel
theorem dL_law_1144 : decode cL_law 1144 = .ok (.if_icmp .eq 242, 3) := by decide +kernel
theorem dL_law_1147 : decode cL_law 1147 = .ok (.iconst 0, 1) := by decide +kernel
theorem dL_law_1148 : decode cL_law 1148 = .ok (.ireturn, 1) := by decide +kernel
theorem dL_law_1149 : decode cL_law 1149 = .ok (.aload_n 1, 1) := by decide +kernel
theorem dL_law_1150 : decode cL_law 1150 = .ok (.aload_n 0, 1) := by decide +kernel
theorem dL_law_1151 : decode cL_law 1151 = .ok (.iload_n 3, 1) := by decide +kernel
theorem dL_law_1152 : decode cL_law 1152 = .ok (.iconst 1, 1) := by decide +kernel
theorem dL_law_1153 : decode cL_law 1153 = .ok (.iadd, 1) := by decide +kernel
theorem dL_law_1154 : decode cL_law 1154 = .ok (.iaload, 1) := by decide +kernel
theorem dL_law_1155 : decode cL_law 1155 = .ok (.aload_n 0, 1) := by decide +kernel
theorem dL_law_1156 : decode cL_law 1156 = .ok (.iload_n 3, 1) := by decide +kernel
theorem dL_law_1157 : decode cL_law 1157 = .ok (.iconst 2, 1) := by decide +kernel
theorem dL_law_1158 : decode cL_law 1158 = .ok (.iadd, 1) := by decide +kernel
theorem dL_law_1159 : decode cL_law 1159 = .ok (.iaload, 1) := by decide +kernel
theorem dL_law_1160 : decode cL_law 1160 = .ok (.aload_n 0, 1) := by decide +kernel
theorem dL_law_1161 : decode cL_law 1161 = .ok (.iload_n 3, 1) := by decide +kernel
theorem dL_law_1162 : decode cL_law 1162 = .ok (.iconst 3, 1) := by decide +kernel
theorem dL_law_1163 : decode cL_law 1163 = .ok (.iadd, 1) := by decide +kernel
theorem dL_law_1164 : decode cL_law 1164 = .ok (.iaload, 1) := by decide +kernel
theorem dL_law_1165 : decode cL_law 1165 = .ok (.invokevirtual 146, 3) := by decide +kernel
theorem dL_law_1168 : decode cL_law 1168 = .ok (.aload_n 2, 1) := by decide +kernel
theorem dL_law_1169 : decode cL_law 1169 = .ok (.aload_n 0, 1) := by decide +kernel
theorem dL_law_1170 : decode cL_law 1170 = .ok (.iload_n 3, 1) := by decide +kernel
theorem dL_law_1171 : decode cL_law 1171 = .ok (.iconst 1, 1) := by decide +kernel
theorem dL_law_1172 : decode cL_law 1172 = .ok (.iadd, 1) := by decide +kernel
theorem dL_law_1173 : decode cL_law 1173 = .ok (.iaload, 1) := by decide +kernel
theorem dL_law_1174 : decode cL_law 1174 = .ok (.aload_n 0, 1) := by decide +kernel
theorem dL_law_1175 : decode cL_law 1175 = .ok (.iload_n 3, 1) := by decide +kernel
theorem dL_law_1176 : decode cL_law 1176 = .ok (.iconst 2, 1) := by decide +kernel
theorem dL_law_1177 : decode cL_law 1177 = .ok (.iadd, 1) := by decide +kernel
theorem dL_law_1178 : decode cL_law 1178 = .ok (.iaload, 1) := by decide +kernel
theorem dL_law_1179 : decode cL_law 1179 = .ok (.aload_n 0, 1) := by decide +kernel
theorem dL_law_1180 : decode cL_law 1180 = .ok (.iload_n 3, 1) := by decide +kernel
theorem dL_law_1181 : decode cL_law 1181 = .ok (.iconst 3, 1) := by decide +kernel
theorem dL_law_1182 : decode cL_law 1182 = .ok (.iadd, 1) := by decide +kernel
theorem dL_law_1183 : decode cL_law 1183 = .ok (.iaload, 1) := by decide +kernel
theorem dL_law_1184 : decode cL_law 1184 = .ok (.invokevirtual 149, 3) := by decide +kernel
theorem dL_law_1187 : decode cL_law 1187 = .ok (.if_icmp .eq 199, 3) := by decide +kernel
theorem dL_law_1190 : decode cL_law 1190 = .ok (.iconst 0, 1) := by decide +kernel
theorem dL_law_1191 : decode cL_law 1191 = .ok (.ireturn, 1) := by decide +kernel
theorem dL_law_1192 : decode cL_law 1192 = .ok (.aload_n 1, 1) := by decide +kernel
theorem dL_law_1193 : decode cL_law 1193 = .ok (.aload_n 0, 1) := by decide +kernel
theorem dL_law_1194 : decode cL_law 1194 = .ok (.iload_n 3, 1) := by decide +kernel
theorem dL_law_1195 : decode cL_law 1195 = .ok (.iconst 1, 1) := by decide +kernel
theorem dL_law_1196 : decode cL_law 1196 = .ok (.iadd, 1) := by decide +kernel
theorem dL_law_1197 : decode cL_law 1197 = .ok (.iaload, 1) := by decide +kernel
theorem dL_law_1198 : decode cL_law 1198 = .ok (.aload_n 0, 1) := by decide +kernel
theorem dL_law_1199 : decode cL_law 1199 = .ok (.iload_n 3, 1) := by decide +kernel
theorem dL_law_1200 : decode cL_law 1200 = .ok (.iconst 2, 1) := by decide +kernel
theorem dL_law_1201 : decode cL_law 1201 = .ok (.iadd, 1) := by decide +kernel
theorem dL_law_1202 : decode cL_law 1202 = .ok (.iaload, 1) := by decide +kernel
theorem dL_law_1203 : decode cL_law 1203 = .ok (.aload_n 0, 1) := by decide +kernel
theorem dL_law_1204 : decode cL_law 1204 = .ok (.iload_n 3, 1) := by decide +kernel
theorem dL_law_1205 : decode cL_law 1205 = .ok (.iconst 3, 1) := by decide +kernel
theorem dL_law_1206 : decode cL_law 1206 = .ok (.iadd, 1) := by decide +kernel
theorem dL_law_1207 : decode cL_law 1207 = .ok (.iaload, 1) := by decide +kernel
theorem dL_law_1208 : decode cL_law 1208 = .ok (.aload_n 0, 1) := by decide +kernel
theorem dL_law_1209 : decode cL_law 1209 = .ok (.iload_n 3, 1) := by decide +kernel
theorem dL_law_1210 : decode cL_law 1210 = .ok (.iconst 4, 1) := by decide +kernel
theorem dL_law_1211 : decode cL_law 1211 = .ok (.iadd, 1) := by decide +kernel
theorem dL_law_1212 : decode cL_law 1212 = .ok (.iaload, 1) := by decide +kernel
theorem dL_law_1213 : decode cL_law 1213 = .ok (.aload_n 0, 1) := by decide +kernel
theorem dL_law_1214 : decode cL_law 1214 = .ok (.iload_n 3, 1) := by decide +kernel
theorem dL_law_1215 : decode cL_law 1215 = .ok (.iconst 5, 1) := by decide +kernel
theorem dL_law_1216 : decode cL_law 1216 = .ok (.iadd, 1) := by decide +kernel
theorem dL_law_1217 : decode cL_law 1217 = .ok (.iaload, 1) := by decide +kernel
theorem dL_law_1218 : decode cL_law 1218 = .ok (.invokevirtual 150, 3) := by decide +kernel
theorem dL_law_1221 : decode cL_law 1221 = .ok (.aload_n 2, 1) := by decide +kernel
theorem dL_law_1222 : decode cL_law 1222 = .ok (.aload_n 0, 1) := by decide +kernel
theorem dL_law_1223 : decode cL_law 1223 = .ok (.iload_n 3, 1) := by decide +kernel
theorem dL_law_1224 : decode cL_law 1224 = .ok (.iconst 1, 1) := by decide +kernel
theorem dL_law_1225 : decode cL_law 1225 = .ok (.iadd, 1) := by decide +kernel
theorem dL_law_1226 : decode cL_law 1226 = .ok (.iaload, 1) := by decide +kernel
theorem dL_law_1227 : decode cL_law 1227 = .ok (.aload_n 0, 1) := by decide +kernel
theorem dL_law_1228 : decode cL_law 1228 = .ok (.iload_n 3, 1) := by decide +kernel
theorem dL_law_1229 : decode cL_law 1229 = .ok (.iconst 2, 1) := by decide +kernel
theorem dL_law_1230 : decode cL_law 1230 = .ok (.iadd, 1) := by decide +kernel
theorem dL_law_1231 : decode cL_law 1231 = .ok (.iaload, 1) := by decide +kernel
theorem dL_law_1232 : decode cL_law 1232 = .ok (.aload_n 0, 1) := by decide +kernel
theorem dL_law_1233 : decode cL_law 1233 = .ok (.iload_n 3, 1) := by decide +kernel
theorem dL_law_1234 : decode cL_law 1234 = .ok (.iconst 3, 1) := by decide +kernel
theorem dL_law_1235 : decode cL_law 1235 = .ok (.iadd, 1) := by decide +kernel
theorem dL_law_1236 : decode cL_law 1236 = .ok (.iaload, 1) := by decide +kernel
theorem dL_law_1237 : decode cL_law 1237 = .ok (.aload_n 0, 1) := by decide +kernel
theorem dL_law_1238 : decode cL_law 1238 = .ok (.iload_n 3, 1) := by decide +kernel
theorem dL_law_1239 : decode cL_law 1239 = .ok (.iconst 4, 1) := by decide +kernel
theorem dL_law_1240 : decode cL_law 1240 = .ok (.iadd, 1) := by decide +kernel
theorem dL_law_1241 : decode cL_law 1241 = .ok (.iaload, 1) := by decide +kernel
theorem dL_law_1242 : decode cL_law 1242 = .ok (.aload_n 0, 1) := by decide +kernel
theorem dL_law_1243 : decode cL_law 1243 = .ok (.iload_n 3, 1) := by decide +kernel
theorem dL_law_1244 : decode cL_law 1244 = .ok (.iconst 5, 1) := by decide +kernel
theorem dL_law_1245 : decode cL_law 1245 = .ok (.iadd, 1) := by decide +kernel
theorem dL_law_1246 : decode cL_law 1246 = .ok (.iaload, 1) := by decide +kernel
theorem dL_law_1247 : decode cL_law 1247 = .ok (.invokevirtual 154, 3) := by decide +kernel
theorem dL_law_1250 : decode cL_law 1250 = .ok (.if_icmp .eq 136, 3) := by decide +kernel
theorem dL_law_1253 : decode cL_law 1253 = .ok (.iconst 0, 1) := by decide +kernel
theorem dL_law_1254 : decode cL_law 1254 = .ok (.ireturn, 1) := by decide +kernel
theorem dL_law_1255 : decode cL_law 1255 = .ok (.aload_n 1, 1) := by decide +kernel
theorem dL_law_1256 : decode cL_law 1256 = .ok (.aload_n 0, 1) := by decide +kernel
theorem dL_law_1257 : decode cL_law 1257 = .ok (.iload_n 3, 1) := by decide +kernel
theorem dL_law_1258 : decode cL_law 1258 = .ok (.iconst 1, 1) := by decide +kernel
theorem dL_law_1259 : decode cL_law 1259 = .ok (.iadd, 1) := by decide +kernel
theorem dL_law_1260 : decode cL_law 1260 = .ok (.iaload, 1) := by decide +kernel
theorem dL_law_1261 : decode cL_law 1261 = .ok (.invokevirtual 155, 3) := by decide +kernel
theorem dL_law_1264 : decode cL_law 1264 = .ok (.aload_n 2, 1) := by decide +kernel
theorem dL_law_1265 : decode cL_law 1265 = .ok (.aload_n 0, 1) := by decide +kernel
theorem dL_law_1266 : decode cL_law 1266 = .ok (.iload_n 3, 1) := by decide +kernel
theorem dL_law_1267 : decode cL_law 1267 = .ok (.iconst 1, 1) := by decide +kernel
theorem dL_law_1268 : decode cL_law 1268 = .ok (.iadd, 1) := by decide +kernel
theorem dL_law_1269 : decode cL_law 1269 = .ok (.iaload, 1) := by decide +kernel
theorem dL_law_1270 : decode cL_law 1270 = .ok (.invokevirtual 158, 3) := by decide +kernel
theorem dL_law_1273 : decode cL_law 1273 = .ok (.if_icmp .eq 113, 3) := by decide +kernel
theorem dL_law_1276 : decode cL_law 1276 = .ok (.iconst 0, 1) := by decide +kernel
theorem dL_law_1277 : decode cL_law 1277 = .ok (.ireturn, 1) := by decide +kernel
theorem dL_law_1278 : decode cL_law 1278 = .ok (.aload_n 1, 1) := by decide +kernel
theorem dL_law_1279 : decode cL_law 1279 = .ok (.aload_n 0, 1) := by decide +kernel
theorem dL_law_1280 : decode cL_law 1280 = .ok (.iload_n 3, 1) := by decide +kernel
theorem dL_law_1281 : decode cL_law 1281 = .ok (.iconst 1, 1) := by decide +kernel
theorem dL_law_1282 : decode cL_law 1282 = .ok (.iadd, 1) := by decide +kernel
theorem dL_law_1283 : decode cL_law 1283 = .ok (.iaload, 1) := by decide +kernel
theorem dL_law_1284 : decode cL_law 1284 = .ok (.invokevirtual 159, 3) := by decide +kernel
theorem dL_law_1287 : decode cL_law 1287 = .ok (.aload_n 2, 1) := by decide +kernel
theorem dL_law_1288 : decode cL_law 1288 = .ok (.aload_n 0, 1) := by decide +kernel
theorem dL_law_1289 : decode cL_law 1289 = .ok (.iload_n 3, 1) := by decide +kernel
theorem dL_law_1290 : decode cL_law 1290 = .ok (.iconst 1, 1) := by decide +kernel
theorem dL_law_1291 : decode cL_law 1291 = .ok (.iadd, 1) := by decide +kernel
theorem dL_law_1292 : decode cL_law 1292 = .ok (.iaload, 1) := by decide +kernel
theorem dL_law_1293 : decode cL_law 1293 = .ok (.invokevirtual 162, 3) := by decide +kernel
theorem dL_law_1296 : decode cL_law 1296 = .ok (.if_icmp .eq 90, 3) := by decide +kernel
theorem dL_law_1299 : decode cL_law 1299 = .ok (.iconst 0, 1) := by decide +kernel
theorem dL_law_1300 : decode cL_law 1300 = .ok (.ireturn, 1) := by decide +kernel
theorem dL_law_1301 : decode cL_law 1301 = .ok (.aload_n 1, 1) := by decide +kernel
theorem dL_law_1302 : decode cL_law 1302 = .ok (.invokevirtual 163, 3) := by decide +kernel
theorem dL_law_1305 : decode cL_law 1305 = .ok (.aload_n 2, 1) := by decide +kernel
theorem dL_law_1306 : decode cL_law 1306 = .ok (.invokevirtual 166, 3) := by decide +kernel
theorem dL_law_1309 : decode cL_law 1309 = .ok (.if_icmp .eq 77, 3) := by decide +kernel
theorem dL_law_1312 : decode cL_law 1312 = .ok (.iconst 0, 1) := by decide +kernel
theorem dL_law_1313 : decode cL_law 1313 = .ok (.ireturn, 1) := by decide +kernel
theorem dL_law_1314 : decode cL_law 1314 = .ok (.aload_n 1, 1) := by decide +kernel
theorem dL_law_1315 : decode cL_law 1315 = .ok (.invokevirtual 167, 3) := by decide +kernel
theorem dL_law_1318 : decode cL_law 1318 = .ok (.aload_n 2, 1) := by decide +kernel
theorem dL_law_1319 : decode cL_law 1319 = .ok (.invokevirtual 170, 3) := by decide +kernel
theorem dL_law_1322 : decode cL_law 1322 = .ok (.if_icmp .eq 64, 3) := by decide +kernel
theorem dL_law_1325 : decode cL_law 1325 = .ok (.iconst 0, 1) := by decide +kernel
theorem dL_law_1326 : decode cL_law 1326 = .ok (.ireturn, 1) := by decide +kernel
theorem dL_law_1327 : decode cL_law 1327 = .ok (.aload_n 1, 1) := by decide +kernel
theorem dL_law_1328 : decode cL_law 1328 = .ok (.invokevirtual 171, 3) := by decide +kernel
theorem dL_law_1331 : decode cL_law 1331 = .ok (.aload_n 2, 1) := by decide +kernel
theorem dL_law_1332 : decode cL_law 1332 = .ok (.invokevirtual 174, 3) := by decide +kernel
theorem dL_law_1335 : decode cL_law 1335 = .ok (.if_icmp .eq 51, 3) := by decide +kernel
theorem dL_law_1338 : decode cL_law 1338 = .ok (.iconst 0, 1) := by decide +kernel
theorem dL_law_1339 : decode cL_law 1339 = .ok (.ireturn, 1) := by decide +kernel
theorem dL_law_1340 : decode cL_law 1340 = .ok (.aload_n 1, 1) := by decide +kernel
theorem dL_law_1341 : decode cL_law 1341 = .ok (.aload_n 0, 1) := by decide +kernel
theorem dL_law_1342 : decode cL_law 1342 = .ok (.iload_n 3, 1) := by decide +kernel
theorem dL_law_1343 : decode cL_law 1343 = .ok (.iconst 1, 1) := by decide +kernel
theorem dL_law_1344 : decode cL_law 1344 = .ok (.iadd, 1) := by decide +kernel
theorem dL_law_1345 : decode cL_law 1345 = .ok (.iaload, 1) := by decide +kernel
theorem dL_law_1346 : decode cL_law 1346 = .ok (.invokevirtual 175, 3) := by decide +kernel
theorem dL_law_1349 : decode cL_law 1349 = .ok (.aload_n 2, 1) := by decide +kernel
theorem dL_law_1350 : decode cL_law 1350 = .ok (.aload_n 0, 1) := by decide +kernel
theorem dL_law_1351 : decode cL_law 1351 = .ok (.iload_n 3, 1) := by decide +kernel
theorem dL_law_1352 : decode cL_law 1352 = .ok (.iconst 1, 1) := by decide +kernel
theorem dL_law_1353 : decode cL_law 1353 = .ok (.iadd, 1) := by decide +kernel
theorem dL_law_1354 : decode cL_law 1354 = .ok (.iaload, 1) := by decide +kernel
theorem dL_law_1355 : decode cL_law 1355 = .ok (.invokevirtual 178, 3) := by decide +kernel
theorem dL_law_1358 : decode cL_law 1358 = .ok (.if_icmp .eq 28, 3) := by decide +kernel
theorem dL_law_1361 : decode cL_law 1361 = .ok (.iconst 0, 1) := by decide +kernel
theorem dL_law_1362 : decode cL_law 1362 = .ok (.ireturn, 1) := by decide +kernel
theorem dL_law_1363 : decode cL_law 1363 = .ok (.aload_n 1, 1) := by decide +kernel
theorem dL_law_1364 : decode cL_law 1364 = .ok (.aload_n 0, 1) := by decide +kernel
theorem dL_law_1365 : decode cL_law 1365 = .ok (.iload_n 3, 1) := by decide +kernel
theorem dL_law_1366 : decode cL_law 1366 = .ok (.iconst 1, 1) := by decide +kernel
theorem dL_law_1367 : decode cL_law 1367 = .ok (.iadd, 1) := by decide +kernel
theorem dL_law_1368 : decode cL_law 1368 = .ok (.iaload, 1) := by decide +kernel
theorem dL_law_1369 : decode cL_law 1369 = .ok (.invokevirtual 179, 3) := by decide +kernel
theorem dL_law_1372 : decode cL_law 1372 = .ok (.aload_n 2, 1) := by decide +kernel
theorem dL_law_1373 : decode cL_law 1373 = .ok (.aload_n 0, 1) := by decide +kernel
theorem dL_law_1374 : decode cL_law 1374 = .ok (.iload_n 3, 1) := by decide +kernel
theorem dL_law_1375 : decode cL_law 1375 = .ok (.iconst 1, 1) := by decide +kernel
theorem dL_law_1376 : decode cL_law 1376 = .ok (.iadd, 1) := by decide +kernel
theorem dL_law_1377 : decode cL_law 1377 = .ok (.iaload, 1) := by decide +kernel
theorem dL_law_1378 : decode cL_law 1378 = .ok (.invokevirtual 182, 3) := by decide +kernel
theorem dL_law_1381 : decode cL_law 1381 = .ok (.if_icmp .eq 5, 3) := by decide +kernel
theorem dL_law_1384 : decode cL_law 1384 = .ok (.iconst 0, 1) := by decide +kernel
theorem dL_law_1385 : decode cL_law 1385 = .ok (.ireturn, 1) := by decide +kernel
theorem dL_law_1386 : decode cL_law 1386 = .ok (.iinc 3 6, 3) := by decide +kernel
theorem dL_law_1389 : decode cL_law 1389 = .ok (.goto (-1371), 3) := by decide +kernel
theorem dL_law_1392 : decode cL_law 1392 = .ok (.iconst 1, 1) := by decide +kernel
theorem dL_law_1393 : decode cL_law 1393 = .ok (.ireturn, 1) := by decide +kernel
def bL_law_1386 (fu : Nat) (L : Nat) (xs : Nat → Int32) (k18 : mt_St → Int32 → Option (Int32 × mt_St)) (σ : mt_St) (x3 : Int32) : Option (Int32 × mt_St) :=
  k18 σ (x3 + 6)
set_option maxHeartbeats 4000000 in
set_option maxRecDepth 20000 in
theorem vL_law_1386 {K : mt_C} {fu : Nat} {L : Nat} {xs : Nat → Int32} {b : Nat} {σf : mt_St} (hX : va_X b L xs (ks K) (ks K).heap) (hbl : b < (ks K).heap.size) (hbA : ¬ mt_A (kG K) b) (hQ : mt_LR K b) {k18 : mt_St → Int32 → Option (Int32 × mt_St)} (hk18 : ∀ (s0 : mt_St) (x3 : Int32), mt_V K cL_law RL 4 12 s0 18 [(0, .ref b), (1, .ref (mt_adr (kG K) 0)), (2, .ref (mt_adr (kG K) 56)), (3, .int x3)] [] (k18 s0 x3 = some ((1 : Int32), σf))) : ∀ (σ : mt_St) (x3 : Int32), mt_V K cL_law RL 4 12 σ 1386 [(0, .ref b), (1, .ref (mt_adr (kG K) 0)), (2, .ref (mt_adr (kG K) 56)), (3, .int x3)] [] (bL_law_1386 fu L xs k18 σ x3 = some ((1 : Int32), σf)) := by
  intro σ x3
  unfold bL_law_1386
  refine mv_iinc (k0 := 3) (v := x3 + 6) (lv' := [(0, .ref b), (1, .ref (mt_adr (kG K) 0)), (2, .ref (mt_adr (kG K) 56)), (3, .int (x3 + 6))]) [1, 2, 3, 0] dL_law_1386 rfl (mt_inc ic_6) (by decide) rfl ?_
  refine mv_goto 18 dL_law_1389 (by decide) ?_
  exact hk18 σ (x3 + 6)
def bL_law_18 (fu : Nat) (L : Nat) (xs : Nat → Int32) : Nat → mt_St → Int32 → Option (Int32 × mt_St)
  | 0, _, _ => none
  | n + 1, σ, x3 =>
    if ((Int32.ofNat L) - (6 : Int32)) < x3 then
      some ((1 : Int32), σ)
    else
      mt_chk (mt_in x3 L) <|
      if ((xs (Int32.toNatClampNeg x3)) &&& (63 : Int32)) = 0 then
        mt_chk (mt_in (x3 + (1 : Int32)) L) <|
        mt_chk (mt_in (x3 + (2 : Int32)) L) <|
        mt_call (fX5_set fu σ (xs (Int32.toNatClampNeg (x3 + (1 : Int32)))) (xs (Int32.toNatClampNeg (x3 + (2 : Int32))))) fun r1 s2 =>
        mt_chk (mt_in (x3 + (1 : Int32)) L) <|
        mt_chk (mt_in (x3 + (2 : Int32)) L) <|
        mt_call (fX6_set fu s2 (xs (Int32.toNatClampNeg (x3 + (1 : Int32)))) (xs (Int32.toNatClampNeg (x3 + (2 : Int32))))) fun r3 s4 =>
        if r1 = r3 then
          bL_law_1386 fu L xs (fun s0 x3 => bL_law_18 fu L xs n s0 x3) s4 x3
        else
          some ((0 : Int32), s4)
      else
      if ((xs (Int32.toNatClampNeg x3)) &&& (63 : Int32)) = 1 then
        mt_chk (mt_in (x3 + (1 : Int32)) L) <|
        mt_call (fX5_seen fu σ (xs (Int32.toNatClampNeg (x3 + (1 : Int32))))) fun r5 s6 =>
        mt_chk (mt_in (x3 + (1 : Int32)) L) <|
        mt_call (fX6_seen fu s6 (xs (Int32.toNatClampNeg (x3 + (1 : Int32))))) fun r7 s8 =>
        if r5 = r7 then
          bL_law_1386 fu L xs (fun s0 x3 => bL_law_18 fu L xs n s0 x3) s8 x3
        else
          some ((0 : Int32), s8)
      else
      if ((xs (Int32.toNatClampNeg x3)) &&& (63 : Int32)) = 2 then
        mt_chk (mt_in (x3 + (1 : Int32)) L) <|
        mt_chk (mt_in (x3 + (2 : Int32)) L) <|
        mt_call (fX5_event fu σ (xs (Int32.toNatClampNeg (x3 + (1 : Int32)))) (xs (Int32.toNatClampNeg (x3 + (2 : Int32))))) fun r9 s10 =>
        mt_chk (mt_in (x3 + (1 : Int32)) L) <|
        mt_chk (mt_in (x3 + (2 : Int32)) L) <|
        mt_call (fX6_event fu s10 (xs (Int32.toNatClampNeg (x3 + (1 : Int32)))) (xs (Int32.toNatClampNeg (x3 + (2 : Int32))))) fun r11 s12 =>
        if r9 = r11 then
          bL_law_1386 fu L xs (fun s0 x3 => bL_law_18 fu L xs n s0 x3) s12 x3
        else
          some ((0 : Int32), s12)
      else
      if ((xs (Int32.toNatClampNeg x3)) &&& (63 : Int32)) = 3 then
        mt_chk (mt_in (x3 + (1 : Int32)) L) <|
        mt_call (fX5_listed fu σ (xs (Int32.toNatClampNeg (x3 + (1 : Int32))))) fun r13 s14 =>
        mt_chk (mt_in (x3 + (1 : Int32)) L) <|
        mt_call (fX6_listed fu s14 (xs (Int32.toNatClampNeg (x3 + (1 : Int32))))) fun r15 s16 =>
        if r13 = r15 then
          bL_law_1386 fu L xs (fun s0 x3 => bL_law_18 fu L xs n s0 x3) s16 x3
        else
          some ((0 : Int32), s16)
      else
      if ((xs (Int32.toNatClampNeg x3)) &&& (63 : Int32)) = 4 then
        mt_chk (mt_in (x3 + (1 : Int32)) L) <|
        mt_chk (mt_in (x3 + (2 : Int32)) L) <|
        mt_chk (mt_in (x3 + (3 : Int32)) L) <|
        mt_call (fX5_treaty fu σ (xs (Int32.toNatClampNeg (x3 + (1 : Int32)))) (xs (Int32.toNatClampNeg (x3 + (2 : Int32)))) (xs (Int32.toNatClampNeg (x3 + (3 : Int32))))) fun r17 s18 =>
        mt_chk (mt_in (x3 + (1 : Int32)) L) <|
        mt_chk (mt_in (x3 + (2 : Int32)) L) <|
        mt_chk (mt_in (x3 + (3 : Int32)) L) <|
        mt_call (fX6_treaty fu s18 (xs (Int32.toNatClampNeg (x3 + (1 : Int32)))) (xs (Int32.toNatClampNeg (x3 + (2 : Int32)))) (xs (Int32.toNatClampNeg (x3 + (3 : Int32))))) fun r19 s20 =>
        if r17 = r19 then
          bL_law_1386 fu L xs (fun s0 x3 => bL_law_18 fu L xs n s0 x3) s20 x3
        else
          some ((0 : Int32), s20)
      else
      if ((xs (Int32.toNatClampNeg x3)) &&& (63 : Int32)) = 5 then
        mt_chk (mt_in (x3 + (1 : Int32)) L) <|
        mt_chk (mt_in (x3 + (2 : Int32)) L) <|
        mt_call (fX5_of fu σ (xs (Int32.toNatClampNeg (x3 + (1 : Int32)))) (xs (Int32.toNatClampNeg (x3 + (2 : Int32))))) fun r21 s22 =>
        mt_chk (mt_in (x3 + (1 : Int32)) L) <|
        mt_chk (mt_in (x3 + (2 : Int32)) L) <|
        mt_call (fX6_of fu s22 (xs (Int32.toNatClampNeg (x3 + (1 : Int32)))) (xs (Int32.toNatClampNeg (x3 + (2 : Int32))))) fun r23 s24 =>
        if r21 = r23 then
          bL_law_1386 fu L xs (fun s0 x3 => bL_law_18 fu L xs n s0 x3) s24 x3
        else
          some ((0 : Int32), s24)
      else
      if ((xs (Int32.toNatClampNeg x3)) &&& (63 : Int32)) = 6 then
        mt_chk (mt_in (x3 + (1 : Int32)) L) <|
        mt_chk (mt_in (x3 + (2 : Int32)) L) <|
        mt_chk (mt_in (x3 + (3 : Int32)) L) <|
        mt_call (fX5_change fu σ (xs (Int32.toNatClampNeg (x3 + (1 : Int32)))) (xs (Int32.toNatClampNeg (x3 + (2 : Int32)))) (xs (Int32.toNatClampNeg (x3 + (3 : Int32))))) fun r25 s26 =>
        mt_chk (mt_in (x3 + (1 : Int32)) L) <|
        mt_chk (mt_in (x3 + (2 : Int32)) L) <|
        mt_chk (mt_in (x3 + (3 : Int32)) L) <|
        mt_call (fX6_change fu s26 (xs (Int32.toNatClampNeg (x3 + (1 : Int32)))) (xs (Int32.toNatClampNeg (x3 + (2 : Int32)))) (xs (Int32.toNatClampNeg (x3 + (3 : Int32))))) fun r27 s28 =>
        if r25 = r27 then
          bL_law_1386 fu L xs (fun s0 x3 => bL_law_18 fu L xs n s0 x3) s28 x3
        else
          some ((0 : Int32), s28)
      else
      if ((xs (Int32.toNatClampNeg x3)) &&& (63 : Int32)) = 7 then
        mt_chk (mt_in (x3 + (1 : Int32)) L) <|
        mt_call (fX5_wars fu σ (xs (Int32.toNatClampNeg (x3 + (1 : Int32))))) fun r29 s30 =>
        mt_chk (mt_in (x3 + (1 : Int32)) L) <|
        mt_call (fX6_wars fu s30 (xs (Int32.toNatClampNeg (x3 + (1 : Int32))))) fun r31 s32 =>
        if r29 = r31 then
          bL_law_1386 fu L xs (fun s0 x3 => bL_law_18 fu L xs n s0 x3) s32 x3
        else
          some ((0 : Int32), s32)
      else
      if ((xs (Int32.toNatClampNeg x3)) &&& (63 : Int32)) = 8 then
        mt_chk (mt_in (x3 + (1 : Int32)) L) <|
        mt_call (fX5_go fu σ (xs (Int32.toNatClampNeg (x3 + (1 : Int32))))) fun r33 s34 =>
        mt_chk (mt_in (x3 + (1 : Int32)) L) <|
        mt_call (fX6_go fu s34 (xs (Int32.toNatClampNeg (x3 + (1 : Int32))))) fun r35 s36 =>
        if r33 = r35 then
          bL_law_1386 fu L xs (fun s0 x3 => bL_law_18 fu L xs n s0 x3) s36 x3
        else
          some ((0 : Int32), s36)
      else
      if ((xs (Int32.toNatClampNeg x3)) &&& (63 : Int32)) = 9 then
        mt_chk (mt_in (x3 + (1 : Int32)) L) <|
        mt_call (fX5_now fu σ (xs (Int32.toNatClampNeg (x3 + (1 : Int32))))) fun r37 s38 =>
        mt_chk (mt_in (x3 + (1 : Int32)) L) <|
        mt_call (fX6_now fu s38 (xs (Int32.toNatClampNeg (x3 + (1 : Int32))))) fun r39 s40 =>
        if r37 = r39 then
          bL_law_1386 fu L xs (fun s0 x3 => bL_law_18 fu L xs n s0 x3) s40 x3
        else
          some ((0 : Int32), s40)
      else
      if ((xs (Int32.toNatClampNeg x3)) &&& (63 : Int32)) = 10 then
        mt_chk (mt_in (x3 + (1 : Int32)) L) <|
        mt_chk (mt_in (x3 + (2 : Int32)) L) <|
        mt_chk (mt_in (x3 + (3 : Int32)) L) <|
        mt_call (fX5_ahead fu σ (xs (Int32.toNatClampNeg (x3 + (1 : Int32)))) (xs (Int32.toNatClampNeg (x3 + (2 : Int32)))) (xs (Int32.toNatClampNeg (x3 + (3 : Int32))))) fun r41 s42 =>
        mt_chk (mt_in (x3 + (1 : Int32)) L) <|
        mt_chk (mt_in (x3 + (2 : Int32)) L) <|
        mt_chk (mt_in (x3 + (3 : Int32)) L) <|
        mt_call (fX6_ahead fu s42 (xs (Int32.toNatClampNeg (x3 + (1 : Int32)))) (xs (Int32.toNatClampNeg (x3 + (2 : Int32)))) (xs (Int32.toNatClampNeg (x3 + (3 : Int32))))) fun r43 s44 =>
        if r41 = r43 then
          bL_law_1386 fu L xs (fun s0 x3 => bL_law_18 fu L xs n s0 x3) s44 x3
        else
          some ((0 : Int32), s44)
      else
      if ((xs (Int32.toNatClampNeg x3)) &&& (63 : Int32)) = 11 then
        mt_chk (mt_in (x3 + (1 : Int32)) L) <|
        mt_call (fX5_gold fu σ (xs (Int32.toNatClampNeg (x3 + (1 : Int32))))) fun r45 s46 =>
        mt_chk (mt_in (x3 + (1 : Int32)) L) <|
        mt_call (fX6_gold fu s46 (xs (Int32.toNatClampNeg (x3 + (1 : Int32))))) fun r47 s48 =>
        if r45 = r47 then
          bL_law_1386 fu L xs (fun s0 x3 => bL_law_18 fu L xs n s0 x3) s48 x3
        else
          some ((0 : Int32), s48)
      else
      if ((xs (Int32.toNatClampNeg x3)) &&& (63 : Int32)) = 12 then
        mt_chk (mt_in (x3 + (1 : Int32)) L) <|
        mt_call (fX5_breaks fu σ (xs (Int32.toNatClampNeg (x3 + (1 : Int32))))) fun r49 s50 =>
        mt_chk (mt_in (x3 + (1 : Int32)) L) <|
        mt_call (fX6_breaks fu s50 (xs (Int32.toNatClampNeg (x3 + (1 : Int32))))) fun r51 s52 =>
        if r49 = r51 then
          bL_law_1386 fu L xs (fun s0 x3 => bL_law_18 fu L xs n s0 x3) s52 x3
        else
          some ((0 : Int32), s52)
      else
      if ((xs (Int32.toNatClampNeg x3)) &&& (63 : Int32)) = 13 then
        mt_chk (mt_in (x3 + (1 : Int32)) L) <|
        mt_chk (mt_in (x3 + (2 : Int32)) L) <|
        mt_call (fX5_war fu σ (xs (Int32.toNatClampNeg (x3 + (1 : Int32)))) (xs (Int32.toNatClampNeg (x3 + (2 : Int32))))) fun r53 s54 =>
        mt_chk (mt_in (x3 + (1 : Int32)) L) <|
        mt_chk (mt_in (x3 + (2 : Int32)) L) <|
        mt_call (fX6_war fu s54 (xs (Int32.toNatClampNeg (x3 + (1 : Int32)))) (xs (Int32.toNatClampNeg (x3 + (2 : Int32))))) fun r55 s56 =>
        if r53 = r55 then
          bL_law_1386 fu L xs (fun s0 x3 => bL_law_18 fu L xs n s0 x3) s56 x3
        else
          some ((0 : Int32), s56)
      else
      if ((xs (Int32.toNatClampNeg x3)) &&& (63 : Int32)) = 14 then
        mt_call (fX5_peace fu σ) fun r57 s58 =>
        mt_call (fX6_peace fu s58) fun r59 s60 =>
        if r57 = r59 then
          bL_law_1386 fu L xs (fun s0 x3 => bL_law_18 fu L xs n s0 x3) s60 x3
        else
          some ((0 : Int32), s60)
      else
      if ((xs (Int32.toNatClampNeg x3)) &&& (63 : Int32)) = 15 then
        mt_chk (mt_in (x3 + (1 : Int32)) L) <|
        mt_chk (mt_in (x3 + (2 : Int32)) L) <|
        mt_call (fX5_when fu σ (xs (Int32.toNatClampNeg (x3 + (1 : Int32)))) (xs (Int32.toNatClampNeg (x3 + (2 : Int32))))) fun r61 s62 =>
        mt_chk (mt_in (x3 + (1 : Int32)) L) <|
        mt_chk (mt_in (x3 + (2 : Int32)) L) <|
        mt_call (fX6_when fu s62 (xs (Int32.toNatClampNeg (x3 + (1 : Int32)))) (xs (Int32.toNatClampNeg (x3 + (2 : Int32))))) fun r63 s64 =>
        if r61 = r63 then
          bL_law_1386 fu L xs (fun s0 x3 => bL_law_18 fu L xs n s0 x3) s64 x3
        else
          some ((0 : Int32), s64)
      else
      if ((xs (Int32.toNatClampNeg x3)) &&& (63 : Int32)) = 16 then
        mt_chk (mt_in (x3 + (1 : Int32)) L) <|
        mt_call (fX5_yardFor fu σ (xs (Int32.toNatClampNeg (x3 + (1 : Int32))))) fun r65 s66 =>
        mt_chk (mt_in (x3 + (1 : Int32)) L) <|
        mt_call (fX6_yardFor fu s66 (xs (Int32.toNatClampNeg (x3 + (1 : Int32))))) fun r67 s68 =>
        if r65 = r67 then
          bL_law_1386 fu L xs (fun s0 x3 => bL_law_18 fu L xs n s0 x3) s68 x3
        else
          some ((0 : Int32), s68)
      else
      if ((xs (Int32.toNatClampNeg x3)) &&& (63 : Int32)) = 17 then
        mt_chk (mt_in (x3 + (1 : Int32)) L) <|
        mt_chk (mt_in (x3 + (2 : Int32)) L) <|
        mt_call (fX5_kindFor fu σ (xs (Int32.toNatClampNeg (x3 + (1 : Int32)))) (xs (Int32.toNatClampNeg (x3 + (2 : Int32))))) fun r69 s70 =>
        mt_chk (mt_in (x3 + (1 : Int32)) L) <|
        mt_chk (mt_in (x3 + (2 : Int32)) L) <|
        mt_call (fX6_kindFor fu s70 (xs (Int32.toNatClampNeg (x3 + (1 : Int32)))) (xs (Int32.toNatClampNeg (x3 + (2 : Int32))))) fun r71 s72 =>
        if r69 = r71 then
          bL_law_1386 fu L xs (fun s0 x3 => bL_law_18 fu L xs n s0 x3) s72 x3
        else
          some ((0 : Int32), s72)
      else
      if ((xs (Int32.toNatClampNeg x3)) &&& (63 : Int32)) = 18 then
        mt_chk (mt_in (x3 + (1 : Int32)) L) <|
        mt_chk (mt_in (x3 + (2 : Int32)) L) <|
        mt_call (fX5_strike fu σ (xs (Int32.toNatClampNeg (x3 + (1 : Int32)))) (xs (Int32.toNatClampNeg (x3 + (2 : Int32))))) fun r73 s74 =>
        mt_chk (mt_in (x3 + (1 : Int32)) L) <|
        mt_chk (mt_in (x3 + (2 : Int32)) L) <|
        mt_call (fX6_strike fu s74 (xs (Int32.toNatClampNeg (x3 + (1 : Int32)))) (xs (Int32.toNatClampNeg (x3 + (2 : Int32))))) fun r75 s76 =>
        if r73 = r75 then
          bL_law_1386 fu L xs (fun s0 x3 => bL_law_18 fu L xs n s0 x3) s76 x3
        else
          some ((0 : Int32), s76)
      else
      if ((xs (Int32.toNatClampNeg x3)) &&& (63 : Int32)) = 19 then
        mt_chk (mt_in (x3 + (1 : Int32)) L) <|
        mt_call (fX5_lull fu σ (xs (Int32.toNatClampNeg (x3 + (1 : Int32))))) fun r77 s78 =>
        mt_chk (mt_in (x3 + (1 : Int32)) L) <|
        mt_call (fX6_lull fu s78 (xs (Int32.toNatClampNeg (x3 + (1 : Int32))))) fun r79 s80 =>
        if r77 = r79 then
          bL_law_1386 fu L xs (fun s0 x3 => bL_law_18 fu L xs n s0 x3) s80 x3
        else
          some ((0 : Int32), s80)
      else
      if ((xs (Int32.toNatClampNeg x3)) &&& (63 : Int32)) = 20 then
        mt_chk (mt_in (x3 + (1 : Int32)) L) <|
        mt_chk (mt_in (x3 + (2 : Int32)) L) <|
        mt_call (fX5_tear fu σ (xs (Int32.toNatClampNeg (x3 + (1 : Int32)))) (xs (Int32.toNatClampNeg (x3 + (2 : Int32))))) fun r81 s82 =>
        mt_chk (mt_in (x3 + (1 : Int32)) L) <|
        mt_chk (mt_in (x3 + (2 : Int32)) L) <|
        mt_call (fX6_tear fu s82 (xs (Int32.toNatClampNeg (x3 + (1 : Int32)))) (xs (Int32.toNatClampNeg (x3 + (2 : Int32))))) fun r83 s84 =>
        if r81 = r83 then
          bL_law_1386 fu L xs (fun s0 x3 => bL_law_18 fu L xs n s0 x3) s84 x3
        else
          some ((0 : Int32), s84)
      else
      if ((xs (Int32.toNatClampNeg x3)) &&& (63 : Int32)) = 21 then
        mt_chk (mt_in (x3 + (1 : Int32)) L) <|
        mt_chk (mt_in (x3 + (2 : Int32)) L) <|
        mt_call (fX5_fits fu σ (xs (Int32.toNatClampNeg (x3 + (1 : Int32)))) (xs (Int32.toNatClampNeg (x3 + (2 : Int32))))) fun r85 s86 =>
        mt_chk (mt_in (x3 + (1 : Int32)) L) <|
        mt_chk (mt_in (x3 + (2 : Int32)) L) <|
        mt_call (fX6_fits fu s86 (xs (Int32.toNatClampNeg (x3 + (1 : Int32)))) (xs (Int32.toNatClampNeg (x3 + (2 : Int32))))) fun r87 s88 =>
        if r85 = r87 then
          bL_law_1386 fu L xs (fun s0 x3 => bL_law_18 fu L xs n s0 x3) s88 x3
        else
          some ((0 : Int32), s88)
      else
      if ((xs (Int32.toNatClampNeg x3)) &&& (63 : Int32)) = 22 then
        mt_chk (mt_in (x3 + (1 : Int32)) L) <|
        mt_chk (mt_in (x3 + (2 : Int32)) L) <|
        mt_call (fX5_kinds fu σ (xs (Int32.toNatClampNeg (x3 + (1 : Int32)))) (xs (Int32.toNatClampNeg (x3 + (2 : Int32))))) fun r89 s90 =>
        mt_chk (mt_in (x3 + (1 : Int32)) L) <|
        mt_chk (mt_in (x3 + (2 : Int32)) L) <|
        mt_call (fX6_kinds fu s90 (xs (Int32.toNatClampNeg (x3 + (1 : Int32)))) (xs (Int32.toNatClampNeg (x3 + (2 : Int32))))) fun r91 s92 =>
        if r89 = r91 then
          bL_law_1386 fu L xs (fun s0 x3 => bL_law_18 fu L xs n s0 x3) s92 x3
        else
          some ((0 : Int32), s92)
      else
      if ((xs (Int32.toNatClampNeg x3)) &&& (63 : Int32)) = 23 then
        mt_chk (mt_in (x3 + (1 : Int32)) L) <|
        mt_call (fX5_wakings fu σ (xs (Int32.toNatClampNeg (x3 + (1 : Int32))))) fun r93 s94 =>
        mt_chk (mt_in (x3 + (1 : Int32)) L) <|
        mt_call (fX6_wakings fu s94 (xs (Int32.toNatClampNeg (x3 + (1 : Int32))))) fun r95 s96 =>
        if r93 = r95 then
          bL_law_1386 fu L xs (fun s0 x3 => bL_law_18 fu L xs n s0 x3) s96 x3
        else
          some ((0 : Int32), s96)
      else
      if ((xs (Int32.toNatClampNeg x3)) &&& (63 : Int32)) = 24 then
        mt_chk (mt_in (x3 + (1 : Int32)) L) <|
        mt_chk (mt_in (x3 + (2 : Int32)) L) <|
        mt_chk (mt_in (x3 + (3 : Int32)) L) <|
        mt_call (fX5_odds fu σ (xs (Int32.toNatClampNeg (x3 + (1 : Int32)))) (xs (Int32.toNatClampNeg (x3 + (2 : Int32)))) (xs (Int32.toNatClampNeg (x3 + (3 : Int32))))) fun r97 s98 =>
        mt_chk (mt_in (x3 + (1 : Int32)) L) <|
        mt_chk (mt_in (x3 + (2 : Int32)) L) <|
        mt_chk (mt_in (x3 + (3 : Int32)) L) <|
        mt_call (fX6_odds fu s98 (xs (Int32.toNatClampNeg (x3 + (1 : Int32)))) (xs (Int32.toNatClampNeg (x3 + (2 : Int32)))) (xs (Int32.toNatClampNeg (x3 + (3 : Int32))))) fun r99 s100 =>
        if (lg_cmp r97 r99) = 0 then
          bL_law_1386 fu L xs (fun s0 x3 => bL_law_18 fu L xs n s0 x3) s100 x3
        else
          some ((0 : Int32), s100)
      else
      if ((xs (Int32.toNatClampNeg x3)) &&& (63 : Int32)) = 25 then
        mt_chk (mt_in (x3 + (1 : Int32)) L) <|
        mt_call (fX5_seed fu σ (xs (Int32.toNatClampNeg (x3 + (1 : Int32))))) fun r101 s102 =>
        mt_chk (mt_in (x3 + (1 : Int32)) L) <|
        mt_call (fX6_seed fu s102 (xs (Int32.toNatClampNeg (x3 + (1 : Int32))))) fun r103 s104 =>
        if r101 = r103 then
          bL_law_1386 fu L xs (fun s0 x3 => bL_law_18 fu L xs n s0 x3) s104 x3
        else
          some ((0 : Int32), s104)
      else
      if ((xs (Int32.toNatClampNeg x3)) &&& (63 : Int32)) = 26 then
        mt_chk (mt_in (x3 + (1 : Int32)) L) <|
        mt_chk (mt_in (x3 + (2 : Int32)) L) <|
        mt_call (fX5_feed fu σ (xs (Int32.toNatClampNeg (x3 + (1 : Int32)))) (xs (Int32.toNatClampNeg (x3 + (2 : Int32))))) fun r105 s106 =>
        mt_chk (mt_in (x3 + (1 : Int32)) L) <|
        mt_chk (mt_in (x3 + (2 : Int32)) L) <|
        mt_call (fX6_feed fu s106 (xs (Int32.toNatClampNeg (x3 + (1 : Int32)))) (xs (Int32.toNatClampNeg (x3 + (2 : Int32))))) fun r107 s108 =>
        if r105 = r107 then
          bL_law_1386 fu L xs (fun s0 x3 => bL_law_18 fu L xs n s0 x3) s108 x3
        else
          some ((0 : Int32), s108)
      else
      if ((xs (Int32.toNatClampNeg x3)) &&& (63 : Int32)) = 27 then
        mt_call (fX5_wipe fu σ) fun r109 s110 =>
        mt_call (fX6_wipe fu s110) fun r111 s112 =>
        if r109 = r111 then
          bL_law_1386 fu L xs (fun s0 x3 => bL_law_18 fu L xs n s0 x3) s112 x3
        else
          some ((0 : Int32), s112)
      else
      if ((xs (Int32.toNatClampNeg x3)) &&& (63 : Int32)) = 28 then
        mt_call (fX5_text fu σ) fun r113 s114 =>
        mt_call (fX6_text fu s114) fun r115 s116 =>
        if r113 = r115 then
          bL_law_1386 fu L xs (fun s0 x3 => bL_law_18 fu L xs n s0 x3) s116 x3
        else
          some ((0 : Int32), s116)
      else
      if ((xs (Int32.toNatClampNeg x3)) &&& (63 : Int32)) = 29 then
        mt_chk (mt_in (x3 + (1 : Int32)) L) <|
        mt_chk (mt_in (x3 + (2 : Int32)) L) <|
        mt_call (fX5_hold fu σ (xs (Int32.toNatClampNeg (x3 + (1 : Int32)))) (xs (Int32.toNatClampNeg (x3 + (2 : Int32))))) fun r117 s118 =>
        mt_chk (mt_in (x3 + (1 : Int32)) L) <|
        mt_chk (mt_in (x3 + (2 : Int32)) L) <|
        mt_call (fX6_hold fu s118 (xs (Int32.toNatClampNeg (x3 + (1 : Int32)))) (xs (Int32.toNatClampNeg (x3 + (2 : Int32))))) fun r119 s120 =>
        if r117 = r119 then
          bL_law_1386 fu L xs (fun s0 x3 => bL_law_18 fu L xs n s0 x3) s120 x3
        else
          some ((0 : Int32), s120)
      else
      if ((xs (Int32.toNatClampNeg x3)) &&& (63 : Int32)) = 30 then
        mt_chk (mt_in (x3 + (1 : Int32)) L) <|
        mt_chk (mt_in (x3 + (2 : Int32)) L) <|
        mt_call (fX5_as fu σ (xs (Int32.toNatClampNeg (x3 + (1 : Int32)))) (xs (Int32.toNatClampNeg (x3 + (2 : Int32))))) fun r121 s122 =>
        mt_chk (mt_in (x3 + (1 : Int32)) L) <|
        mt_chk (mt_in (x3 + (2 : Int32)) L) <|
        mt_call (fX6_as fu s122 (xs (Int32.toNatClampNeg (x3 + (1 : Int32)))) (xs (Int32.toNatClampNeg (x3 + (2 : Int32))))) fun r123 s124 =>
        if r121 = r123 then
          bL_law_1386 fu L xs (fun s0 x3 => bL_law_18 fu L xs n s0 x3) s124 x3
        else
          some ((0 : Int32), s124)
      else
      if ((xs (Int32.toNatClampNeg x3)) &&& (63 : Int32)) = 31 then
        mt_chk (mt_in (x3 + (1 : Int32)) L) <|
        mt_chk (mt_in (x3 + (2 : Int32)) L) <|
        mt_chk (mt_in (x3 + (3 : Int32)) L) <|
        mt_call (fX5_sheet fu σ (xs (Int32.toNatClampNeg (x3 + (1 : Int32)))) (xs (Int32.toNatClampNeg (x3 + (2 : Int32)))) (xs (Int32.toNatClampNeg (x3 + (3 : Int32))))) fun r125 s126 =>
        mt_chk (mt_in (x3 + (1 : Int32)) L) <|
        mt_chk (mt_in (x3 + (2 : Int32)) L) <|
        mt_chk (mt_in (x3 + (3 : Int32)) L) <|
        mt_call (fX6_sheet fu s126 (xs (Int32.toNatClampNeg (x3 + (1 : Int32)))) (xs (Int32.toNatClampNeg (x3 + (2 : Int32)))) (xs (Int32.toNatClampNeg (x3 + (3 : Int32))))) fun r127 s128 =>
        if r125 = r127 then
          bL_law_1386 fu L xs (fun s0 x3 => bL_law_18 fu L xs n s0 x3) s128 x3
        else
          some ((0 : Int32), s128)
      else
      if ((xs (Int32.toNatClampNeg x3)) &&& (63 : Int32)) = 32 then
        mt_chk (mt_in (x3 + (1 : Int32)) L) <|
        mt_chk (mt_in (x3 + (2 : Int32)) L) <|
        mt_chk (mt_in (x3 + (3 : Int32)) L) <|
        mt_call (fX5_write fu σ (xs (Int32.toNatClampNeg (x3 + (1 : Int32)))) (xs (Int32.toNatClampNeg (x3 + (2 : Int32)))) (xs (Int32.toNatClampNeg (x3 + (3 : Int32))))) fun r129 s130 =>
        mt_chk (mt_in (x3 + (1 : Int32)) L) <|
        mt_chk (mt_in (x3 + (2 : Int32)) L) <|
        mt_chk (mt_in (x3 + (3 : Int32)) L) <|
        mt_call (fX6_write fu s130 (xs (Int32.toNatClampNeg (x3 + (1 : Int32)))) (xs (Int32.toNatClampNeg (x3 + (2 : Int32)))) (xs (Int32.toNatClampNeg (x3 + (3 : Int32))))) fun r131 s132 =>
        if r129 = r131 then
          bL_law_1386 fu L xs (fun s0 x3 => bL_law_18 fu L xs n s0 x3) s132 x3
        else
          some ((0 : Int32), s132)
      else
      if ((xs (Int32.toNatClampNeg x3)) &&& (63 : Int32)) = 33 then
        mt_chk (mt_in (x3 + (1 : Int32)) L) <|
        mt_chk (mt_in (x3 + (2 : Int32)) L) <|
        mt_chk (mt_in (x3 + (3 : Int32)) L) <|
        mt_chk (mt_in (x3 + (4 : Int32)) L) <|
        mt_chk (mt_in (x3 + (5 : Int32)) L) <|
        mt_call (fX5_copy fu σ (xs (Int32.toNatClampNeg (x3 + (1 : Int32)))) (xs (Int32.toNatClampNeg (x3 + (2 : Int32)))) (xs (Int32.toNatClampNeg (x3 + (3 : Int32)))) (xs (Int32.toNatClampNeg (x3 + (4 : Int32)))) (xs (Int32.toNatClampNeg (x3 + (5 : Int32))))) fun r133 s134 =>
        mt_chk (mt_in (x3 + (1 : Int32)) L) <|
        mt_chk (mt_in (x3 + (2 : Int32)) L) <|
        mt_chk (mt_in (x3 + (3 : Int32)) L) <|
        mt_chk (mt_in (x3 + (4 : Int32)) L) <|
        mt_chk (mt_in (x3 + (5 : Int32)) L) <|
        mt_call (fX6_copy fu s134 (xs (Int32.toNatClampNeg (x3 + (1 : Int32)))) (xs (Int32.toNatClampNeg (x3 + (2 : Int32)))) (xs (Int32.toNatClampNeg (x3 + (3 : Int32)))) (xs (Int32.toNatClampNeg (x3 + (4 : Int32)))) (xs (Int32.toNatClampNeg (x3 + (5 : Int32))))) fun r135 s136 =>
        if r133 = r135 then
          bL_law_1386 fu L xs (fun s0 x3 => bL_law_18 fu L xs n s0 x3) s136 x3
        else
          some ((0 : Int32), s136)
      else
      if ((xs (Int32.toNatClampNeg x3)) &&& (63 : Int32)) = 34 then
        mt_chk (mt_in (x3 + (1 : Int32)) L) <|
        mt_call (fX5_load fu σ (xs (Int32.toNatClampNeg (x3 + (1 : Int32))))) fun r137 s138 =>
        mt_chk (mt_in (x3 + (1 : Int32)) L) <|
        mt_call (fX6_load fu s138 (xs (Int32.toNatClampNeg (x3 + (1 : Int32))))) fun r139 s140 =>
        if r137 = r139 then
          bL_law_1386 fu L xs (fun s0 x3 => bL_law_18 fu L xs n s0 x3) s140 x3
        else
          some ((0 : Int32), s140)
      else
      if ((xs (Int32.toNatClampNeg x3)) &&& (63 : Int32)) = 35 then
        mt_chk (mt_in (x3 + (1 : Int32)) L) <|
        mt_call (fX5_judge fu σ (xs (Int32.toNatClampNeg (x3 + (1 : Int32))))) fun r141 s142 =>
        mt_chk (mt_in (x3 + (1 : Int32)) L) <|
        mt_call (fX6_judge fu s142 (xs (Int32.toNatClampNeg (x3 + (1 : Int32))))) fun r143 s144 =>
        if r141 = r143 then
          bL_law_1386 fu L xs (fun s0 x3 => bL_law_18 fu L xs n s0 x3) s144 x3
        else
          some ((0 : Int32), s144)
      else
      if ((xs (Int32.toNatClampNeg x3)) &&& (63 : Int32)) = 36 then
        mt_call (fX5_image fu σ) fun r145 s146 =>
        mt_call (fX6_image fu s146) fun r147 s148 =>
        if r145 = r147 then
          bL_law_1386 fu L xs (fun s0 x3 => bL_law_18 fu L xs n s0 x3) s148 x3
        else
          some ((0 : Int32), s148)
      else
      if ((xs (Int32.toNatClampNeg x3)) &&& (63 : Int32)) = 37 then
        mt_call (fX5_undo fu σ) fun r149 s150 =>
        mt_call (fX6_undo fu s150) fun r151 s152 =>
        if r149 = r151 then
          bL_law_1386 fu L xs (fun s0 x3 => bL_law_18 fu L xs n s0 x3) s152 x3
        else
          some ((0 : Int32), s152)
      else
      if ((xs (Int32.toNatClampNeg x3)) &&& (63 : Int32)) = 38 then
        mt_call (fX5_forget fu σ) fun r153 s154 =>
        mt_call (fX6_forget fu s154) fun r155 s156 =>
        if r153 = r155 then
          bL_law_1386 fu L xs (fun s0 x3 => bL_law_18 fu L xs n s0 x3) s156 x3
        else
          some ((0 : Int32), s156)
      else
      if ((xs (Int32.toNatClampNeg x3)) &&& (63 : Int32)) = 39 then
        mt_chk (mt_in (x3 + (1 : Int32)) L) <|
        mt_call (fX5_count fu σ (xs (Int32.toNatClampNeg (x3 + (1 : Int32))))) fun r157 s158 =>
        mt_chk (mt_in (x3 + (1 : Int32)) L) <|
        mt_call (fX6_count fu s158 (xs (Int32.toNatClampNeg (x3 + (1 : Int32))))) fun r159 s160 =>
        if r157 = r159 then
          bL_law_1386 fu L xs (fun s0 x3 => bL_law_18 fu L xs n s0 x3) s160 x3
        else
          some ((0 : Int32), s160)
      else
      if ((xs (Int32.toNatClampNeg x3)) &&& (63 : Int32)) = 40 then
        mt_chk (mt_in (x3 + (1 : Int32)) L) <|
        mt_call (fX5_status fu σ (xs (Int32.toNatClampNeg (x3 + (1 : Int32))))) fun r161 s162 =>
        mt_chk (mt_in (x3 + (1 : Int32)) L) <|
        mt_call (fX6_status fu s162 (xs (Int32.toNatClampNeg (x3 + (1 : Int32))))) fun r163 s164 =>
        if r161 = r163 then
          bL_law_1386 fu L xs (fun s0 x3 => bL_law_18 fu L xs n s0 x3) s164 x3
        else
          some ((0 : Int32), s164)
      else
      bL_law_1386 fu L xs (fun s0 x3 => bL_law_18 fu L xs n s0 x3) σ x3
set_option maxHeartbeats 4000000 in
set_option maxRecDepth 20000 in
theorem vL_law_18 {K : mt_C} {fu : Nat} {L : Nat} {xs : Nat → Int32} {b : Nat} {σf : mt_St} (hX : va_X b L xs (ks K) (ks K).heap) (hbl : b < (ks K).heap.size) (hbA : ¬ mt_A (kG K) b) (hQ : mt_LR K b) : ∀ (n : Nat) (σ : mt_St) (x3 : Int32), mt_V K cL_law RL 4 12 σ 18 [(0, .ref b), (1, .ref (mt_adr (kG K) 0)), (2, .ref (mt_adr (kG K) 56)), (3, .int x3)] [] (bL_law_18 fu L xs n σ x3 = some ((1 : Int32), σf)) := by
  intro n
  induction n with
  | zero => intro σ x3; intro hP; unfold bL_law_18 at hP; cases hP
  | succ n ih =>
    intro σ x3
    unfold bL_law_18
    refine mv_iload_n 3 dL_law_18 rfl rfl ?_
    refine mv_aload_n 0 dL_law_19 rfl rfl ?_
    refine mv_scl hX hbl hbA dL_law_20 ?_
    refine mv_bipush (v := 6) dL_law_21 bp_6 ?_
    refine mv_isub dL_law_23 ?_
    refine mv_icmp_gt 1392 dL_law_24 (by decide) ?_ ?_
    · refine mv_iconst (v := 1) dL_law_1392 ic_1 ?_
      exact mv_lawret hQ rfl dL_law_1393
    · refine mv_aload_n 0 dL_law_27 rfl rfl ?_
      refine mv_iload_n 3 dL_law_28 rfl rfl ?_
      refine mv_scr hX hbl hbA dL_law_29 ?_
      refine mv_bipush (v := 63) dL_law_30 bp_63 ?_
      refine mv_iand dL_law_32 ?_
      refine mv_case (fun e0 => ?_) (fun n0 => ?_)
      · refine mv_tsin 0 212 e0 dL_law_33 (by decide) (by decide) rfl (by decide) ?_
        refine mv_aload_n 1 dL_law_212 rfl rfl ?_
        refine mv_aload_n 0 dL_law_213 rfl rfl ?_
        refine mv_iload_n 3 dL_law_214 rfl rfl ?_
        refine mv_iconst (v := 1) dL_law_215 ic_1 ?_
        refine mv_iadd dL_law_216 ?_
        refine mv_scr hX hbl hbA dL_law_217 ?_
        refine mv_aload_n 0 dL_law_218 rfl rfl ?_
        refine mv_iload_n 3 dL_law_219 rfl rfl ?_
        refine mv_iconst (v := 2) dL_law_220 ic_2 ?_
        refine mv_iadd dL_law_221 ?_
        refine mv_scr hX hbl hbA dL_law_222 ?_
        refine mv_cVwi (As := [.int (xs (Int32.toNatClampNeg (x3 + (1 : Int32)))), .int (xs (Int32.toNatClampNeg (x3 + (2 : Int32))))]) (st := []) cal_X5_set ins_X5_set ml_L_13 rfl (by decide) rfl rfl (by decide) rfl (Nat.le_of_ble_eq_true rfl) dL_law_223 (fun r s h => co_X5_set h) (fun r1 s2 => ?_)
        refine mv_aload_n 2 dL_law_226 rfl rfl ?_
        refine mv_aload_n 0 dL_law_227 rfl rfl ?_
        refine mv_iload_n 3 dL_law_228 rfl rfl ?_
        refine mv_iconst (v := 1) dL_law_229 ic_1 ?_
        refine mv_iadd dL_law_230 ?_
        refine mv_scr hX hbl hbA dL_law_231 ?_
        refine mv_aload_n 0 dL_law_232 rfl rfl ?_
        refine mv_iload_n 3 dL_law_233 rfl rfl ?_
        refine mv_iconst (v := 2) dL_law_234 ic_2 ?_
        refine mv_iadd dL_law_235 ?_
        refine mv_scr hX hbl hbA dL_law_236 ?_
        refine mv_cVwi (As := [.int (xs (Int32.toNatClampNeg (x3 + (1 : Int32)))), .int (xs (Int32.toNatClampNeg (x3 + (2 : Int32))))]) (st := [.int r1]) cal_X6_set ins_X6_set ml_L_17 rfl (by decide) rfl rfl (by decide) rfl (Nat.le_of_ble_eq_true rfl) dL_law_237 (fun r s h => co_X6_set h) (fun r3 s4 => ?_)
        refine mv_icmp_eq 1386 dL_law_240 (by decide) ?_ ?_
        · exact vL_law_1386 hX hbl hbA hQ (fun s0 x3 => ih s0 x3) s4 x3
        · refine mv_iconst (v := 0) dL_law_243 ic_0 ?_
          exact mv_lawret hQ rfl dL_law_244
      refine mv_case (fun e1 => ?_) (fun n1 => ?_)
      · refine mv_tsin 1 245 e1 dL_law_33 (by decide) (by decide) rfl (by decide) ?_
        refine mv_aload_n 1 dL_law_245 rfl rfl ?_
        refine mv_aload_n 0 dL_law_246 rfl rfl ?_
        refine mv_iload_n 3 dL_law_247 rfl rfl ?_
        refine mv_iconst (v := 1) dL_law_248 ic_1 ?_
        refine mv_iadd dL_law_249 ?_
        refine mv_scr hX hbl hbA dL_law_250 ?_
        refine mv_cVwi (As := [.int (xs (Int32.toNatClampNeg (x3 + (1 : Int32))))]) (st := []) cal_X5_seen ins_X5_seen ml_L_18 rfl (by decide) rfl rfl (by decide) rfl (Nat.le_of_ble_eq_true rfl) dL_law_251 (fun r s h => co_X5_seen h) (fun r5 s6 => ?_)
        refine mv_aload_n 2 dL_law_254 rfl rfl ?_
        refine mv_aload_n 0 dL_law_255 rfl rfl ?_
        refine mv_iload_n 3 dL_law_256 rfl rfl ?_
        refine mv_iconst (v := 1) dL_law_257 ic_1 ?_
        refine mv_iadd dL_law_258 ?_
        refine mv_scr hX hbl hbA dL_law_259 ?_
        refine mv_cVwi (As := [.int (xs (Int32.toNatClampNeg (x3 + (1 : Int32))))]) (st := [.int r5]) cal_X6_seen ins_X6_seen ml_L_22 rfl (by decide) rfl rfl (by decide) rfl (Nat.le_of_ble_eq_true rfl) dL_law_260 (fun r s h => co_X6_seen h) (fun r7 s8 => ?_)
        refine mv_icmp_eq 1386 dL_law_263 (by decide) ?_ ?_
        · exact vL_law_1386 hX hbl hbA hQ (fun s0 x3 => ih s0 x3) s8 x3
        · refine mv_iconst (v := 0) dL_law_266 ic_0 ?_
          exact mv_lawret hQ rfl dL_law_267
      refine mv_case (fun e2 => ?_) (fun n2 => ?_)
      · refine mv_tsin 2 268 e2 dL_law_33 (by decide) (by decide) rfl (by decide) ?_
        refine mv_aload_n 1 dL_law_268 rfl rfl ?_
        refine mv_aload_n 0 dL_law_269 rfl rfl ?_
        refine mv_iload_n 3 dL_law_270 rfl rfl ?_
        refine mv_iconst (v := 1) dL_law_271 ic_1 ?_
        refine mv_iadd dL_law_272 ?_
        refine mv_scr hX hbl hbA dL_law_273 ?_
        refine mv_aload_n 0 dL_law_274 rfl rfl ?_
        refine mv_iload_n 3 dL_law_275 rfl rfl ?_
        refine mv_iconst (v := 2) dL_law_276 ic_2 ?_
        refine mv_iadd dL_law_277 ?_
        refine mv_scr hX hbl hbA dL_law_278 ?_
        refine mv_cVwi (As := [.int (xs (Int32.toNatClampNeg (x3 + (1 : Int32)))), .int (xs (Int32.toNatClampNeg (x3 + (2 : Int32))))]) (st := []) cal_X5_event ins_X5_event ml_L_23 rfl (by decide) rfl rfl (by decide) rfl (Nat.le_of_ble_eq_true rfl) dL_law_279 (fun r s h => co_X5_event h) (fun r9 s10 => ?_)
        refine mv_aload_n 2 dL_law_282 rfl rfl ?_
        refine mv_aload_n 0 dL_law_283 rfl rfl ?_
        refine mv_iload_n 3 dL_law_284 rfl rfl ?_
        refine mv_iconst (v := 1) dL_law_285 ic_1 ?_
        refine mv_iadd dL_law_286 ?_
        refine mv_scr hX hbl hbA dL_law_287 ?_
        refine mv_aload_n 0 dL_law_288 rfl rfl ?_
        refine mv_iload_n 3 dL_law_289 rfl rfl ?_
        refine mv_iconst (v := 2) dL_law_290 ic_2 ?_
        refine mv_iadd dL_law_291 ?_
        refine mv_scr hX hbl hbA dL_law_292 ?_
        refine mv_cVwi (As := [.int (xs (Int32.toNatClampNeg (x3 + (1 : Int32)))), .int (xs (Int32.toNatClampNeg (x3 + (2 : Int32))))]) (st := [.int r9]) cal_X6_event ins_X6_event ml_L_26 rfl (by decide) rfl rfl (by decide) rfl (Nat.le_of_ble_eq_true rfl) dL_law_293 (fun r s h => co_X6_event h) (fun r11 s12 => ?_)
        refine mv_icmp_eq 1386 dL_law_296 (by decide) ?_ ?_
        · exact vL_law_1386 hX hbl hbA hQ (fun s0 x3 => ih s0 x3) s12 x3
        · refine mv_iconst (v := 0) dL_law_299 ic_0 ?_
          exact mv_lawret hQ rfl dL_law_300
      refine mv_case (fun e3 => ?_) (fun n3 => ?_)
      · refine mv_tsin 3 301 e3 dL_law_33 (by decide) (by decide) rfl (by decide) ?_
        refine mv_aload_n 1 dL_law_301 rfl rfl ?_
        refine mv_aload_n 0 dL_law_302 rfl rfl ?_
        refine mv_iload_n 3 dL_law_303 rfl rfl ?_
        refine mv_iconst (v := 1) dL_law_304 ic_1 ?_
        refine mv_iadd dL_law_305 ?_
        refine mv_scr hX hbl hbA dL_law_306 ?_
        refine mv_cVwi (As := [.int (xs (Int32.toNatClampNeg (x3 + (1 : Int32))))]) (st := []) cal_X5_listed ins_X5_listed ml_L_27 rfl (by decide) rfl rfl (by decide) rfl (Nat.le_of_ble_eq_true rfl) dL_law_307 (fun r s h => co_X5_listed h) (fun r13 s14 => ?_)
        refine mv_aload_n 2 dL_law_310 rfl rfl ?_
        refine mv_aload_n 0 dL_law_311 rfl rfl ?_
        refine mv_iload_n 3 dL_law_312 rfl rfl ?_
        refine mv_iconst (v := 1) dL_law_313 ic_1 ?_
        refine mv_iadd dL_law_314 ?_
        refine mv_scr hX hbl hbA dL_law_315 ?_
        refine mv_cVwi (As := [.int (xs (Int32.toNatClampNeg (x3 + (1 : Int32))))]) (st := [.int r13]) cal_X6_listed ins_X6_listed ml_L_30 rfl (by decide) rfl rfl (by decide) rfl (Nat.le_of_ble_eq_true rfl) dL_law_316 (fun r s h => co_X6_listed h) (fun r15 s16 => ?_)
        refine mv_icmp_eq 1386 dL_law_319 (by decide) ?_ ?_
        · exact vL_law_1386 hX hbl hbA hQ (fun s0 x3 => ih s0 x3) s16 x3
        · refine mv_iconst (v := 0) dL_law_322 ic_0 ?_
          exact mv_lawret hQ rfl dL_law_323
      refine mv_case (fun e4 => ?_) (fun n4 => ?_)
      · refine mv_tsin 4 324 e4 dL_law_33 (by decide) (by decide) rfl (by decide) ?_
        refine mv_aload_n 1 dL_law_324 rfl rfl ?_
        refine mv_aload_n 0 dL_law_325 rfl rfl ?_
        refine mv_iload_n 3 dL_law_326 rfl rfl ?_
        refine mv_iconst (v := 1) dL_law_327 ic_1 ?_
        refine mv_iadd dL_law_328 ?_
        refine mv_scr hX hbl hbA dL_law_329 ?_
        refine mv_aload_n 0 dL_law_330 rfl rfl ?_
        refine mv_iload_n 3 dL_law_331 rfl rfl ?_
        refine mv_iconst (v := 2) dL_law_332 ic_2 ?_
        refine mv_iadd dL_law_333 ?_
        refine mv_scr hX hbl hbA dL_law_334 ?_
        refine mv_aload_n 0 dL_law_335 rfl rfl ?_
        refine mv_iload_n 3 dL_law_336 rfl rfl ?_
        refine mv_iconst (v := 3) dL_law_337 ic_3 ?_
        refine mv_iadd dL_law_338 ?_
        refine mv_scr hX hbl hbA dL_law_339 ?_
        refine mv_cVwi (As := [.int (xs (Int32.toNatClampNeg (x3 + (1 : Int32)))), .int (xs (Int32.toNatClampNeg (x3 + (2 : Int32)))), .int (xs (Int32.toNatClampNeg (x3 + (3 : Int32))))]) (st := []) cal_X5_treaty ins_X5_treaty ml_L_31 rfl (by decide) rfl rfl (by decide) rfl (Nat.le_of_ble_eq_true rfl) dL_law_340 (fun r s h => co_X5_treaty h) (fun r17 s18 => ?_)
        refine mv_aload_n 2 dL_law_343 rfl rfl ?_
        refine mv_aload_n 0 dL_law_344 rfl rfl ?_
        refine mv_iload_n 3 dL_law_345 rfl rfl ?_
        refine mv_iconst (v := 1) dL_law_346 ic_1 ?_
        refine mv_iadd dL_law_347 ?_
        refine mv_scr hX hbl hbA dL_law_348 ?_
        refine mv_aload_n 0 dL_law_349 rfl rfl ?_
        refine mv_iload_n 3 dL_law_350 rfl rfl ?_
        refine mv_iconst (v := 2) dL_law_351 ic_2 ?_
        refine mv_iadd dL_law_352 ?_
        refine mv_scr hX hbl hbA dL_law_353 ?_
        refine mv_aload_n 0 dL_law_354 rfl rfl ?_
        refine mv_iload_n 3 dL_law_355 rfl rfl ?_
        refine mv_iconst (v := 3) dL_law_356 ic_3 ?_
        refine mv_iadd dL_law_357 ?_
        refine mv_scr hX hbl hbA dL_law_358 ?_
        refine mv_cVwi (As := [.int (xs (Int32.toNatClampNeg (x3 + (1 : Int32)))), .int (xs (Int32.toNatClampNeg (x3 + (2 : Int32)))), .int (xs (Int32.toNatClampNeg (x3 + (3 : Int32))))]) (st := [.int r17]) cal_X6_treaty ins_X6_treaty ml_L_35 rfl (by decide) rfl rfl (by decide) rfl (Nat.le_of_ble_eq_true rfl) dL_law_359 (fun r s h => co_X6_treaty h) (fun r19 s20 => ?_)
        refine mv_icmp_eq 1386 dL_law_362 (by decide) ?_ ?_
        · exact vL_law_1386 hX hbl hbA hQ (fun s0 x3 => ih s0 x3) s20 x3
        · refine mv_iconst (v := 0) dL_law_365 ic_0 ?_
          exact mv_lawret hQ rfl dL_law_366
      refine mv_case (fun e5 => ?_) (fun n5 => ?_)
      · refine mv_tsin 5 367 e5 dL_law_33 (by decide) (by decide) rfl (by decide) ?_
        refine mv_aload_n 1 dL_law_367 rfl rfl ?_
        refine mv_aload_n 0 dL_law_368 rfl rfl ?_
        refine mv_iload_n 3 dL_law_369 rfl rfl ?_
        refine mv_iconst (v := 1) dL_law_370 ic_1 ?_
        refine mv_iadd dL_law_371 ?_
        refine mv_scr hX hbl hbA dL_law_372 ?_
        refine mv_aload_n 0 dL_law_373 rfl rfl ?_
        refine mv_iload_n 3 dL_law_374 rfl rfl ?_
        refine mv_iconst (v := 2) dL_law_375 ic_2 ?_
        refine mv_iadd dL_law_376 ?_
        refine mv_scr hX hbl hbA dL_law_377 ?_
        refine mv_cVwi (As := [.int (xs (Int32.toNatClampNeg (x3 + (1 : Int32)))), .int (xs (Int32.toNatClampNeg (x3 + (2 : Int32))))]) (st := []) cal_X5_of ins_X5_of ml_L_36 rfl (by decide) rfl rfl (by decide) rfl (Nat.le_of_ble_eq_true rfl) dL_law_378 (fun r s h => co_X5_of h) (fun r21 s22 => ?_)
        refine mv_aload_n 2 dL_law_381 rfl rfl ?_
        refine mv_aload_n 0 dL_law_382 rfl rfl ?_
        refine mv_iload_n 3 dL_law_383 rfl rfl ?_
        refine mv_iconst (v := 1) dL_law_384 ic_1 ?_
        refine mv_iadd dL_law_385 ?_
        refine mv_scr hX hbl hbA dL_law_386 ?_
        refine mv_aload_n 0 dL_law_387 rfl rfl ?_
        refine mv_iload_n 3 dL_law_388 rfl rfl ?_
        refine mv_iconst (v := 2) dL_law_389 ic_2 ?_
        refine mv_iadd dL_law_390 ?_
        refine mv_scr hX hbl hbA dL_law_391 ?_
        refine mv_cVwi (As := [.int (xs (Int32.toNatClampNeg (x3 + (1 : Int32)))), .int (xs (Int32.toNatClampNeg (x3 + (2 : Int32))))]) (st := [.int r21]) cal_X6_of ins_X6_of ml_L_39 rfl (by decide) rfl rfl (by decide) rfl (Nat.le_of_ble_eq_true rfl) dL_law_392 (fun r s h => co_X6_of h) (fun r23 s24 => ?_)
        refine mv_icmp_eq 1386 dL_law_395 (by decide) ?_ ?_
        · exact vL_law_1386 hX hbl hbA hQ (fun s0 x3 => ih s0 x3) s24 x3
        · refine mv_iconst (v := 0) dL_law_398 ic_0 ?_
          exact mv_lawret hQ rfl dL_law_399
      refine mv_case (fun e6 => ?_) (fun n6 => ?_)
      · refine mv_tsin 6 400 e6 dL_law_33 (by decide) (by decide) rfl (by decide) ?_
        refine mv_aload_n 1 dL_law_400 rfl rfl ?_
        refine mv_aload_n 0 dL_law_401 rfl rfl ?_
        refine mv_iload_n 3 dL_law_402 rfl rfl ?_
        refine mv_iconst (v := 1) dL_law_403 ic_1 ?_
        refine mv_iadd dL_law_404 ?_
        refine mv_scr hX hbl hbA dL_law_405 ?_
        refine mv_aload_n 0 dL_law_406 rfl rfl ?_
        refine mv_iload_n 3 dL_law_407 rfl rfl ?_
        refine mv_iconst (v := 2) dL_law_408 ic_2 ?_
        refine mv_iadd dL_law_409 ?_
        refine mv_scr hX hbl hbA dL_law_410 ?_
        refine mv_aload_n 0 dL_law_411 rfl rfl ?_
        refine mv_iload_n 3 dL_law_412 rfl rfl ?_
        refine mv_iconst (v := 3) dL_law_413 ic_3 ?_
        refine mv_iadd dL_law_414 ?_
        refine mv_scr hX hbl hbA dL_law_415 ?_
        refine mv_cVwi (As := [.int (xs (Int32.toNatClampNeg (x3 + (1 : Int32)))), .int (xs (Int32.toNatClampNeg (x3 + (2 : Int32)))), .int (xs (Int32.toNatClampNeg (x3 + (3 : Int32))))]) (st := []) cal_X5_change ins_X5_change ml_L_40 rfl (by decide) rfl rfl (by decide) rfl (Nat.le_of_ble_eq_true rfl) dL_law_416 (fun r s h => co_X5_change h) (fun r25 s26 => ?_)
        refine mv_aload_n 2 dL_law_419 rfl rfl ?_
        refine mv_aload_n 0 dL_law_420 rfl rfl ?_
        refine mv_iload_n 3 dL_law_421 rfl rfl ?_
        refine mv_iconst (v := 1) dL_law_422 ic_1 ?_
        refine mv_iadd dL_law_423 ?_
        refine mv_scr hX hbl hbA dL_law_424 ?_
        refine mv_aload_n 0 dL_law_425 rfl rfl ?_
        refine mv_iload_n 3 dL_law_426 rfl rfl ?_
        refine mv_iconst (v := 2) dL_law_427 ic_2 ?_
        refine mv_iadd dL_law_428 ?_
        refine mv_scr hX hbl hbA dL_law_429 ?_
        refine mv_aload_n 0 dL_law_430 rfl rfl ?_
        refine mv_iload_n 3 dL_law_431 rfl rfl ?_
        refine mv_iconst (v := 3) dL_law_432 ic_3 ?_
        refine mv_iadd dL_law_433 ?_
        refine mv_scr hX hbl hbA dL_law_434 ?_
        refine mv_cVwi (As := [.int (xs (Int32.toNatClampNeg (x3 + (1 : Int32)))), .int (xs (Int32.toNatClampNeg (x3 + (2 : Int32)))), .int (xs (Int32.toNatClampNeg (x3 + (3 : Int32))))]) (st := [.int r25]) cal_X6_change ins_X6_change ml_L_43 rfl (by decide) rfl rfl (by decide) rfl (Nat.le_of_ble_eq_true rfl) dL_law_435 (fun r s h => co_X6_change h) (fun r27 s28 => ?_)
        refine mv_icmp_eq 1386 dL_law_438 (by decide) ?_ ?_
        · exact vL_law_1386 hX hbl hbA hQ (fun s0 x3 => ih s0 x3) s28 x3
        · refine mv_iconst (v := 0) dL_law_441 ic_0 ?_
          exact mv_lawret hQ rfl dL_law_442
      refine mv_case (fun e7 => ?_) (fun n7 => ?_)
      · refine mv_tsin 7 443 e7 dL_law_33 (by decide) (by decide) rfl (by decide) ?_
        refine mv_aload_n 1 dL_law_443 rfl rfl ?_
        refine mv_aload_n 0 dL_law_444 rfl rfl ?_
        refine mv_iload_n 3 dL_law_445 rfl rfl ?_
        refine mv_iconst (v := 1) dL_law_446 ic_1 ?_
        refine mv_iadd dL_law_447 ?_
        refine mv_scr hX hbl hbA dL_law_448 ?_
        refine mv_cVwi (As := [.int (xs (Int32.toNatClampNeg (x3 + (1 : Int32))))]) (st := []) cal_X5_wars ins_X5_wars ml_L_44 rfl (by decide) rfl rfl (by decide) rfl (Nat.le_of_ble_eq_true rfl) dL_law_449 (fun r s h => co_X5_wars h) (fun r29 s30 => ?_)
        refine mv_aload_n 2 dL_law_452 rfl rfl ?_
        refine mv_aload_n 0 dL_law_453 rfl rfl ?_
        refine mv_iload_n 3 dL_law_454 rfl rfl ?_
        refine mv_iconst (v := 1) dL_law_455 ic_1 ?_
        refine mv_iadd dL_law_456 ?_
        refine mv_scr hX hbl hbA dL_law_457 ?_
        refine mv_cVwi (As := [.int (xs (Int32.toNatClampNeg (x3 + (1 : Int32))))]) (st := [.int r29]) cal_X6_wars ins_X6_wars ml_L_47 rfl (by decide) rfl rfl (by decide) rfl (Nat.le_of_ble_eq_true rfl) dL_law_458 (fun r s h => co_X6_wars h) (fun r31 s32 => ?_)
        refine mv_icmp_eq 1386 dL_law_461 (by decide) ?_ ?_
        · exact vL_law_1386 hX hbl hbA hQ (fun s0 x3 => ih s0 x3) s32 x3
        · refine mv_iconst (v := 0) dL_law_464 ic_0 ?_
          exact mv_lawret hQ rfl dL_law_465
      refine mv_case (fun e8 => ?_) (fun n8 => ?_)
      · refine mv_tsin 8 466 e8 dL_law_33 (by decide) (by decide) rfl (by decide) ?_
        refine mv_aload_n 1 dL_law_466 rfl rfl ?_
        refine mv_aload_n 0 dL_law_467 rfl rfl ?_
        refine mv_iload_n 3 dL_law_468 rfl rfl ?_
        refine mv_iconst (v := 1) dL_law_469 ic_1 ?_
        refine mv_iadd dL_law_470 ?_
        refine mv_scr hX hbl hbA dL_law_471 ?_
        refine mv_cVwi (As := [.int (xs (Int32.toNatClampNeg (x3 + (1 : Int32))))]) (st := []) cal_X5_go ins_X5_go ml_L_48 rfl (by decide) rfl rfl (by decide) rfl (Nat.le_of_ble_eq_true rfl) dL_law_472 (fun r s h => co_X5_go h) (fun r33 s34 => ?_)
        refine mv_aload_n 2 dL_law_475 rfl rfl ?_
        refine mv_aload_n 0 dL_law_476 rfl rfl ?_
        refine mv_iload_n 3 dL_law_477 rfl rfl ?_
        refine mv_iconst (v := 1) dL_law_478 ic_1 ?_
        refine mv_iadd dL_law_479 ?_
        refine mv_scr hX hbl hbA dL_law_480 ?_
        refine mv_cVwi (As := [.int (xs (Int32.toNatClampNeg (x3 + (1 : Int32))))]) (st := [.int r33]) cal_X6_go ins_X6_go ml_L_51 rfl (by decide) rfl rfl (by decide) rfl (Nat.le_of_ble_eq_true rfl) dL_law_481 (fun r s h => co_X6_go h) (fun r35 s36 => ?_)
        refine mv_icmp_eq 1386 dL_law_484 (by decide) ?_ ?_
        · exact vL_law_1386 hX hbl hbA hQ (fun s0 x3 => ih s0 x3) s36 x3
        · refine mv_iconst (v := 0) dL_law_487 ic_0 ?_
          exact mv_lawret hQ rfl dL_law_488
      refine mv_case (fun e9 => ?_) (fun n9 => ?_)
      · refine mv_tsin 9 489 e9 dL_law_33 (by decide) (by decide) rfl (by decide) ?_
        refine mv_aload_n 1 dL_law_489 rfl rfl ?_
        refine mv_aload_n 0 dL_law_490 rfl rfl ?_
        refine mv_iload_n 3 dL_law_491 rfl rfl ?_
        refine mv_iconst (v := 1) dL_law_492 ic_1 ?_
        refine mv_iadd dL_law_493 ?_
        refine mv_scr hX hbl hbA dL_law_494 ?_
        refine mv_cVwi (As := [.int (xs (Int32.toNatClampNeg (x3 + (1 : Int32))))]) (st := []) cal_X5_now ins_X5_now ml_L_52 rfl (by decide) rfl rfl (by decide) rfl (Nat.le_of_ble_eq_true rfl) dL_law_495 (fun r s h => co_X5_now h) (fun r37 s38 => ?_)
        refine mv_aload_n 2 dL_law_498 rfl rfl ?_
        refine mv_aload_n 0 dL_law_499 rfl rfl ?_
        refine mv_iload_n 3 dL_law_500 rfl rfl ?_
        refine mv_iconst (v := 1) dL_law_501 ic_1 ?_
        refine mv_iadd dL_law_502 ?_
        refine mv_scr hX hbl hbA dL_law_503 ?_
        refine mv_cVwi (As := [.int (xs (Int32.toNatClampNeg (x3 + (1 : Int32))))]) (st := [.int r37]) cal_X6_now ins_X6_now ml_L_55 rfl (by decide) rfl rfl (by decide) rfl (Nat.le_of_ble_eq_true rfl) dL_law_504 (fun r s h => co_X6_now h) (fun r39 s40 => ?_)
        refine mv_icmp_eq 1386 dL_law_507 (by decide) ?_ ?_
        · exact vL_law_1386 hX hbl hbA hQ (fun s0 x3 => ih s0 x3) s40 x3
        · refine mv_iconst (v := 0) dL_law_510 ic_0 ?_
          exact mv_lawret hQ rfl dL_law_511
      refine mv_case (fun e10 => ?_) (fun n10 => ?_)
      · refine mv_tsin 10 512 e10 dL_law_33 (by decide) (by decide) rfl (by decide) ?_
        refine mv_aload_n 1 dL_law_512 rfl rfl ?_
        refine mv_aload_n 0 dL_law_513 rfl rfl ?_
        refine mv_iload_n 3 dL_law_514 rfl rfl ?_
        refine mv_iconst (v := 1) dL_law_515 ic_1 ?_
        refine mv_iadd dL_law_516 ?_
        refine mv_scr hX hbl hbA dL_law_517 ?_
        refine mv_aload_n 0 dL_law_518 rfl rfl ?_
        refine mv_iload_n 3 dL_law_519 rfl rfl ?_
        refine mv_iconst (v := 2) dL_law_520 ic_2 ?_
        refine mv_iadd dL_law_521 ?_
        refine mv_scr hX hbl hbA dL_law_522 ?_
        refine mv_aload_n 0 dL_law_523 rfl rfl ?_
        refine mv_iload_n 3 dL_law_524 rfl rfl ?_
        refine mv_iconst (v := 3) dL_law_525 ic_3 ?_
        refine mv_iadd dL_law_526 ?_
        refine mv_scr hX hbl hbA dL_law_527 ?_
        refine mv_cVwi (As := [.int (xs (Int32.toNatClampNeg (x3 + (1 : Int32)))), .int (xs (Int32.toNatClampNeg (x3 + (2 : Int32)))), .int (xs (Int32.toNatClampNeg (x3 + (3 : Int32))))]) (st := []) cal_X5_ahead ins_X5_ahead ml_L_56 rfl (by decide) rfl rfl (by decide) rfl (Nat.le_of_ble_eq_true rfl) dL_law_528 (fun r s h => co_X5_ahead h) (fun r41 s42 => ?_)
        refine mv_aload_n 2 dL_law_531 rfl rfl ?_
        refine mv_aload_n 0 dL_law_532 rfl rfl ?_
        refine mv_iload_n 3 dL_law_533 rfl rfl ?_
        refine mv_iconst (v := 1) dL_law_534 ic_1 ?_
        refine mv_iadd dL_law_535 ?_
        refine mv_scr hX hbl hbA dL_law_536 ?_
        refine mv_aload_n 0 dL_law_537 rfl rfl ?_
        refine mv_iload_n 3 dL_law_538 rfl rfl ?_
        refine mv_iconst (v := 2) dL_law_539 ic_2 ?_
        refine mv_iadd dL_law_540 ?_
        refine mv_scr hX hbl hbA dL_law_541 ?_
        refine mv_aload_n 0 dL_law_542 rfl rfl ?_
        refine mv_iload_n 3 dL_law_543 rfl rfl ?_
        refine mv_iconst (v := 3) dL_law_544 ic_3 ?_
        refine mv_iadd dL_law_545 ?_
        refine mv_scr hX hbl hbA dL_law_546 ?_
        refine mv_cVwi (As := [.int (xs (Int32.toNatClampNeg (x3 + (1 : Int32)))), .int (xs (Int32.toNatClampNeg (x3 + (2 : Int32)))), .int (xs (Int32.toNatClampNeg (x3 + (3 : Int32))))]) (st := [.int r41]) cal_X6_ahead ins_X6_ahead ml_L_59 rfl (by decide) rfl rfl (by decide) rfl (Nat.le_of_ble_eq_true rfl) dL_law_547 (fun r s h => co_X6_ahead h) (fun r43 s44 => ?_)
        refine mv_icmp_eq 1386 dL_law_550 (by decide) ?_ ?_
        · exact vL_law_1386 hX hbl hbA hQ (fun s0 x3 => ih s0 x3) s44 x3
        · refine mv_iconst (v := 0) dL_law_553 ic_0 ?_
          exact mv_lawret hQ rfl dL_law_554
      refine mv_case (fun e11 => ?_) (fun n11 => ?_)
      · refine mv_tsin 11 555 e11 dL_law_33 (by decide) (by decide) rfl (by decide) ?_
        refine mv_aload_n 1 dL_law_555 rfl rfl ?_
        refine mv_aload_n 0 dL_law_556 rfl rfl ?_
        refine mv_iload_n 3 dL_law_557 rfl rfl ?_
        refine mv_iconst (v := 1) dL_law_558 ic_1 ?_
        refine mv_iadd dL_law_559 ?_
        refine mv_scr hX hbl hbA dL_law_560 ?_
        refine mv_cVwi (As := [.int (xs (Int32.toNatClampNeg (x3 + (1 : Int32))))]) (st := []) cal_X5_gold ins_X5_gold ml_L_60 rfl (by decide) rfl rfl (by decide) rfl (Nat.le_of_ble_eq_true rfl) dL_law_561 (fun r s h => co_X5_gold h) (fun r45 s46 => ?_)
        refine mv_aload_n 2 dL_law_564 rfl rfl ?_
        refine mv_aload_n 0 dL_law_565 rfl rfl ?_
        refine mv_iload_n 3 dL_law_566 rfl rfl ?_
        refine mv_iconst (v := 1) dL_law_567 ic_1 ?_
        refine mv_iadd dL_law_568 ?_
        refine mv_scr hX hbl hbA dL_law_569 ?_
        refine mv_cVwi (As := [.int (xs (Int32.toNatClampNeg (x3 + (1 : Int32))))]) (st := [.int r45]) cal_X6_gold ins_X6_gold ml_L_63 rfl (by decide) rfl rfl (by decide) rfl (Nat.le_of_ble_eq_true rfl) dL_law_570 (fun r s h => co_X6_gold h) (fun r47 s48 => ?_)
        refine mv_icmp_eq 1386 dL_law_573 (by decide) ?_ ?_
        · exact vL_law_1386 hX hbl hbA hQ (fun s0 x3 => ih s0 x3) s48 x3
        · refine mv_iconst (v := 0) dL_law_576 ic_0 ?_
          exact mv_lawret hQ rfl dL_law_577
      refine mv_case (fun e12 => ?_) (fun n12 => ?_)
      · refine mv_tsin 12 578 e12 dL_law_33 (by decide) (by decide) rfl (by decide) ?_
        refine mv_aload_n 1 dL_law_578 rfl rfl ?_
        refine mv_aload_n 0 dL_law_579 rfl rfl ?_
        refine mv_iload_n 3 dL_law_580 rfl rfl ?_
        refine mv_iconst (v := 1) dL_law_581 ic_1 ?_
        refine mv_iadd dL_law_582 ?_
        refine mv_scr hX hbl hbA dL_law_583 ?_
        refine mv_cVwi (As := [.int (xs (Int32.toNatClampNeg (x3 + (1 : Int32))))]) (st := []) cal_X5_breaks ins_X5_breaks ml_L_64 rfl (by decide) rfl rfl (by decide) rfl (Nat.le_of_ble_eq_true rfl) dL_law_584 (fun r s h => co_X5_breaks h) (fun r49 s50 => ?_)
        refine mv_aload_n 2 dL_law_587 rfl rfl ?_
        refine mv_aload_n 0 dL_law_588 rfl rfl ?_
        refine mv_iload_n 3 dL_law_589 rfl rfl ?_
        refine mv_iconst (v := 1) dL_law_590 ic_1 ?_
        refine mv_iadd dL_law_591 ?_
        refine mv_scr hX hbl hbA dL_law_592 ?_
        refine mv_cVwi (As := [.int (xs (Int32.toNatClampNeg (x3 + (1 : Int32))))]) (st := [.int r49]) cal_X6_breaks ins_X6_breaks ml_L_67 rfl (by decide) rfl rfl (by decide) rfl (Nat.le_of_ble_eq_true rfl) dL_law_593 (fun r s h => co_X6_breaks h) (fun r51 s52 => ?_)
        refine mv_icmp_eq 1386 dL_law_596 (by decide) ?_ ?_
        · exact vL_law_1386 hX hbl hbA hQ (fun s0 x3 => ih s0 x3) s52 x3
        · refine mv_iconst (v := 0) dL_law_599 ic_0 ?_
          exact mv_lawret hQ rfl dL_law_600
      refine mv_case (fun e13 => ?_) (fun n13 => ?_)
      · refine mv_tsin 13 601 e13 dL_law_33 (by decide) (by decide) rfl (by decide) ?_
        refine mv_aload_n 1 dL_law_601 rfl rfl ?_
        refine mv_aload_n 0 dL_law_602 rfl rfl ?_
        refine mv_iload_n 3 dL_law_603 rfl rfl ?_
        refine mv_iconst (v := 1) dL_law_604 ic_1 ?_
        refine mv_iadd dL_law_605 ?_
        refine mv_scr hX hbl hbA dL_law_606 ?_
        refine mv_aload_n 0 dL_law_607 rfl rfl ?_
        refine mv_iload_n 3 dL_law_608 rfl rfl ?_
        refine mv_iconst (v := 2) dL_law_609 ic_2 ?_
        refine mv_iadd dL_law_610 ?_
        refine mv_scr hX hbl hbA dL_law_611 ?_
        refine mv_cVwi (As := [.int (xs (Int32.toNatClampNeg (x3 + (1 : Int32)))), .int (xs (Int32.toNatClampNeg (x3 + (2 : Int32))))]) (st := []) cal_X5_war ins_X5_war ml_L_68 rfl (by decide) rfl rfl (by decide) rfl (Nat.le_of_ble_eq_true rfl) dL_law_612 (fun r s h => co_X5_war h) (fun r53 s54 => ?_)
        refine mv_aload_n 2 dL_law_615 rfl rfl ?_
        refine mv_aload_n 0 dL_law_616 rfl rfl ?_
        refine mv_iload_n 3 dL_law_617 rfl rfl ?_
        refine mv_iconst (v := 1) dL_law_618 ic_1 ?_
        refine mv_iadd dL_law_619 ?_
        refine mv_scr hX hbl hbA dL_law_620 ?_
        refine mv_aload_n 0 dL_law_621 rfl rfl ?_
        refine mv_iload_n 3 dL_law_622 rfl rfl ?_
        refine mv_iconst (v := 2) dL_law_623 ic_2 ?_
        refine mv_iadd dL_law_624 ?_
        refine mv_scr hX hbl hbA dL_law_625 ?_
        refine mv_cVwi (As := [.int (xs (Int32.toNatClampNeg (x3 + (1 : Int32)))), .int (xs (Int32.toNatClampNeg (x3 + (2 : Int32))))]) (st := [.int r53]) cal_X6_war ins_X6_war ml_L_71 rfl (by decide) rfl rfl (by decide) rfl (Nat.le_of_ble_eq_true rfl) dL_law_626 (fun r s h => co_X6_war h) (fun r55 s56 => ?_)
        refine mv_icmp_eq 1386 dL_law_629 (by decide) ?_ ?_
        · exact vL_law_1386 hX hbl hbA hQ (fun s0 x3 => ih s0 x3) s56 x3
        · refine mv_iconst (v := 0) dL_law_632 ic_0 ?_
          exact mv_lawret hQ rfl dL_law_633
      refine mv_case (fun e14 => ?_) (fun n14 => ?_)
      · refine mv_tsin 14 634 e14 dL_law_33 (by decide) (by decide) rfl (by decide) ?_
        refine mv_aload_n 1 dL_law_634 rfl rfl ?_
        refine mv_cVwi (As := []) (st := []) cal_X5_peace ins_X5_peace ml_L_72 rfl (by decide) rfl rfl (by decide) rfl (Nat.le_of_ble_eq_true rfl) dL_law_635 (fun r s h => co_X5_peace h) (fun r57 s58 => ?_)
        refine mv_aload_n 2 dL_law_638 rfl rfl ?_
        refine mv_cVwi (As := []) (st := [.int r57]) cal_X6_peace ins_X6_peace ml_L_76 rfl (by decide) rfl rfl (by decide) rfl (Nat.le_of_ble_eq_true rfl) dL_law_639 (fun r s h => co_X6_peace h) (fun r59 s60 => ?_)
        refine mv_icmp_eq 1386 dL_law_642 (by decide) ?_ ?_
        · exact vL_law_1386 hX hbl hbA hQ (fun s0 x3 => ih s0 x3) s60 x3
        · refine mv_iconst (v := 0) dL_law_645 ic_0 ?_
          exact mv_lawret hQ rfl dL_law_646
      refine mv_case (fun e15 => ?_) (fun n15 => ?_)
      · refine mv_tsin 15 647 e15 dL_law_33 (by decide) (by decide) rfl (by decide) ?_
        refine mv_aload_n 1 dL_law_647 rfl rfl ?_
        refine mv_aload_n 0 dL_law_648 rfl rfl ?_
        refine mv_iload_n 3 dL_law_649 rfl rfl ?_
        refine mv_iconst (v := 1) dL_law_650 ic_1 ?_
        refine mv_iadd dL_law_651 ?_
        refine mv_scr hX hbl hbA dL_law_652 ?_
        refine mv_aload_n 0 dL_law_653 rfl rfl ?_
        refine mv_iload_n 3 dL_law_654 rfl rfl ?_
        refine mv_iconst (v := 2) dL_law_655 ic_2 ?_
        refine mv_iadd dL_law_656 ?_
        refine mv_scr hX hbl hbA dL_law_657 ?_
        refine mv_cVwi (As := [.int (xs (Int32.toNatClampNeg (x3 + (1 : Int32)))), .int (xs (Int32.toNatClampNeg (x3 + (2 : Int32))))]) (st := []) cal_X5_when ins_X5_when ml_L_77 rfl (by decide) rfl rfl (by decide) rfl (Nat.le_of_ble_eq_true rfl) dL_law_658 (fun r s h => co_X5_when h) (fun r61 s62 => ?_)
        refine mv_aload_n 2 dL_law_661 rfl rfl ?_
        refine mv_aload_n 0 dL_law_662 rfl rfl ?_
        refine mv_iload_n 3 dL_law_663 rfl rfl ?_
        refine mv_iconst (v := 1) dL_law_664 ic_1 ?_
        refine mv_iadd dL_law_665 ?_
        refine mv_scr hX hbl hbA dL_law_666 ?_
        refine mv_aload_n 0 dL_law_667 rfl rfl ?_
        refine mv_iload_n 3 dL_law_668 rfl rfl ?_
        refine mv_iconst (v := 2) dL_law_669 ic_2 ?_
        refine mv_iadd dL_law_670 ?_
        refine mv_scr hX hbl hbA dL_law_671 ?_
        refine mv_cVwi (As := [.int (xs (Int32.toNatClampNeg (x3 + (1 : Int32)))), .int (xs (Int32.toNatClampNeg (x3 + (2 : Int32))))]) (st := [.int r61]) cal_X6_when ins_X6_when ml_L_80 rfl (by decide) rfl rfl (by decide) rfl (Nat.le_of_ble_eq_true rfl) dL_law_672 (fun r s h => co_X6_when h) (fun r63 s64 => ?_)
        refine mv_icmp_eq 1386 dL_law_675 (by decide) ?_ ?_
        · exact vL_law_1386 hX hbl hbA hQ (fun s0 x3 => ih s0 x3) s64 x3
        · refine mv_iconst (v := 0) dL_law_678 ic_0 ?_
          exact mv_lawret hQ rfl dL_law_679
      refine mv_case (fun e16 => ?_) (fun n16 => ?_)
      · refine mv_tsin 16 680 e16 dL_law_33 (by decide) (by decide) rfl (by decide) ?_
        refine mv_aload_n 1 dL_law_680 rfl rfl ?_
        refine mv_aload_n 0 dL_law_681 rfl rfl ?_
        refine mv_iload_n 3 dL_law_682 rfl rfl ?_
        refine mv_iconst (v := 1) dL_law_683 ic_1 ?_
        refine mv_iadd dL_law_684 ?_
        refine mv_scr hX hbl hbA dL_law_685 ?_
        refine mv_cVwi (As := [.int (xs (Int32.toNatClampNeg (x3 + (1 : Int32))))]) (st := []) cal_X5_yardFor ins_X5_yardFor ml_L_81 rfl (by decide) rfl rfl (by decide) rfl (Nat.le_of_ble_eq_true rfl) dL_law_686 (fun r s h => co_X5_yardFor h) (fun r65 s66 => ?_)
        refine mv_aload_n 2 dL_law_689 rfl rfl ?_
        refine mv_aload_n 0 dL_law_690 rfl rfl ?_
        refine mv_iload_n 3 dL_law_691 rfl rfl ?_
        refine mv_iconst (v := 1) dL_law_692 ic_1 ?_
        refine mv_iadd dL_law_693 ?_
        refine mv_scr hX hbl hbA dL_law_694 ?_
        refine mv_cVwi (As := [.int (xs (Int32.toNatClampNeg (x3 + (1 : Int32))))]) (st := [.int r65]) cal_X6_yardFor ins_X6_yardFor ml_L_84 rfl (by decide) rfl rfl (by decide) rfl (Nat.le_of_ble_eq_true rfl) dL_law_695 (fun r s h => co_X6_yardFor h) (fun r67 s68 => ?_)
        refine mv_icmp_eq 1386 dL_law_698 (by decide) ?_ ?_
        · exact vL_law_1386 hX hbl hbA hQ (fun s0 x3 => ih s0 x3) s68 x3
        · refine mv_iconst (v := 0) dL_law_701 ic_0 ?_
          exact mv_lawret hQ rfl dL_law_702
      refine mv_case (fun e17 => ?_) (fun n17 => ?_)
      · refine mv_tsin 17 703 e17 dL_law_33 (by decide) (by decide) rfl (by decide) ?_
        refine mv_aload_n 1 dL_law_703 rfl rfl ?_
        refine mv_aload_n 0 dL_law_704 rfl rfl ?_
        refine mv_iload_n 3 dL_law_705 rfl rfl ?_
        refine mv_iconst (v := 1) dL_law_706 ic_1 ?_
        refine mv_iadd dL_law_707 ?_
        refine mv_scr hX hbl hbA dL_law_708 ?_
        refine mv_aload_n 0 dL_law_709 rfl rfl ?_
        refine mv_iload_n 3 dL_law_710 rfl rfl ?_
        refine mv_iconst (v := 2) dL_law_711 ic_2 ?_
        refine mv_iadd dL_law_712 ?_
        refine mv_scr hX hbl hbA dL_law_713 ?_
        refine mv_cVwi (As := [.int (xs (Int32.toNatClampNeg (x3 + (1 : Int32)))), .int (xs (Int32.toNatClampNeg (x3 + (2 : Int32))))]) (st := []) cal_X5_kindFor ins_X5_kindFor ml_L_85 rfl (by decide) rfl rfl (by decide) rfl (Nat.le_of_ble_eq_true rfl) dL_law_714 (fun r s h => co_X5_kindFor h) (fun r69 s70 => ?_)
        refine mv_aload_n 2 dL_law_717 rfl rfl ?_
        refine mv_aload_n 0 dL_law_718 rfl rfl ?_
        refine mv_iload_n 3 dL_law_719 rfl rfl ?_
        refine mv_iconst (v := 1) dL_law_720 ic_1 ?_
        refine mv_iadd dL_law_721 ?_
        refine mv_scr hX hbl hbA dL_law_722 ?_
        refine mv_aload_n 0 dL_law_723 rfl rfl ?_
        refine mv_iload_n 3 dL_law_724 rfl rfl ?_
        refine mv_iconst (v := 2) dL_law_725 ic_2 ?_
        refine mv_iadd dL_law_726 ?_
        refine mv_scr hX hbl hbA dL_law_727 ?_
        refine mv_cVwi (As := [.int (xs (Int32.toNatClampNeg (x3 + (1 : Int32)))), .int (xs (Int32.toNatClampNeg (x3 + (2 : Int32))))]) (st := [.int r69]) cal_X6_kindFor ins_X6_kindFor ml_L_88 rfl (by decide) rfl rfl (by decide) rfl (Nat.le_of_ble_eq_true rfl) dL_law_728 (fun r s h => co_X6_kindFor h) (fun r71 s72 => ?_)
        refine mv_icmp_eq 1386 dL_law_731 (by decide) ?_ ?_
        · exact vL_law_1386 hX hbl hbA hQ (fun s0 x3 => ih s0 x3) s72 x3
        · refine mv_iconst (v := 0) dL_law_734 ic_0 ?_
          exact mv_lawret hQ rfl dL_law_735
      refine mv_case (fun e18 => ?_) (fun n18 => ?_)
      · refine mv_tsin 18 736 e18 dL_law_33 (by decide) (by decide) rfl (by decide) ?_
        refine mv_aload_n 1 dL_law_736 rfl rfl ?_
        refine mv_aload_n 0 dL_law_737 rfl rfl ?_
        refine mv_iload_n 3 dL_law_738 rfl rfl ?_
        refine mv_iconst (v := 1) dL_law_739 ic_1 ?_
        refine mv_iadd dL_law_740 ?_
        refine mv_scr hX hbl hbA dL_law_741 ?_
        refine mv_aload_n 0 dL_law_742 rfl rfl ?_
        refine mv_iload_n 3 dL_law_743 rfl rfl ?_
        refine mv_iconst (v := 2) dL_law_744 ic_2 ?_
        refine mv_iadd dL_law_745 ?_
        refine mv_scr hX hbl hbA dL_law_746 ?_
        refine mv_cVwi (As := [.int (xs (Int32.toNatClampNeg (x3 + (1 : Int32)))), .int (xs (Int32.toNatClampNeg (x3 + (2 : Int32))))]) (st := []) cal_X5_strike ins_X5_strike ml_L_89 rfl (by decide) rfl rfl (by decide) rfl (Nat.le_of_ble_eq_true rfl) dL_law_747 (fun r s h => co_X5_strike h) (fun r73 s74 => ?_)
        refine mv_aload_n 2 dL_law_750 rfl rfl ?_
        refine mv_aload_n 0 dL_law_751 rfl rfl ?_
        refine mv_iload_n 3 dL_law_752 rfl rfl ?_
        refine mv_iconst (v := 1) dL_law_753 ic_1 ?_
        refine mv_iadd dL_law_754 ?_
        refine mv_scr hX hbl hbA dL_law_755 ?_
        refine mv_aload_n 0 dL_law_756 rfl rfl ?_
        refine mv_iload_n 3 dL_law_757 rfl rfl ?_
        refine mv_iconst (v := 2) dL_law_758 ic_2 ?_
        refine mv_iadd dL_law_759 ?_
        refine mv_scr hX hbl hbA dL_law_760 ?_
        refine mv_cVwi (As := [.int (xs (Int32.toNatClampNeg (x3 + (1 : Int32)))), .int (xs (Int32.toNatClampNeg (x3 + (2 : Int32))))]) (st := [.int r73]) cal_X6_strike ins_X6_strike ml_L_92 rfl (by decide) rfl rfl (by decide) rfl (Nat.le_of_ble_eq_true rfl) dL_law_761 (fun r s h => co_X6_strike h) (fun r75 s76 => ?_)
        refine mv_icmp_eq 1386 dL_law_764 (by decide) ?_ ?_
        · exact vL_law_1386 hX hbl hbA hQ (fun s0 x3 => ih s0 x3) s76 x3
        · refine mv_iconst (v := 0) dL_law_767 ic_0 ?_
          exact mv_lawret hQ rfl dL_law_768
      refine mv_case (fun e19 => ?_) (fun n19 => ?_)
      · refine mv_tsin 19 769 e19 dL_law_33 (by decide) (by decide) rfl (by decide) ?_
        refine mv_aload_n 1 dL_law_769 rfl rfl ?_
        refine mv_aload_n 0 dL_law_770 rfl rfl ?_
        refine mv_iload_n 3 dL_law_771 rfl rfl ?_
        refine mv_iconst (v := 1) dL_law_772 ic_1 ?_
        refine mv_iadd dL_law_773 ?_
        refine mv_scr hX hbl hbA dL_law_774 ?_
        refine mv_cVwi (As := [.int (xs (Int32.toNatClampNeg (x3 + (1 : Int32))))]) (st := []) cal_X5_lull ins_X5_lull ml_L_93 rfl (by decide) rfl rfl (by decide) rfl (Nat.le_of_ble_eq_true rfl) dL_law_775 (fun r s h => co_X5_lull h) (fun r77 s78 => ?_)
        refine mv_aload_n 2 dL_law_778 rfl rfl ?_
        refine mv_aload_n 0 dL_law_779 rfl rfl ?_
        refine mv_iload_n 3 dL_law_780 rfl rfl ?_
        refine mv_iconst (v := 1) dL_law_781 ic_1 ?_
        refine mv_iadd dL_law_782 ?_
        refine mv_scr hX hbl hbA dL_law_783 ?_
        refine mv_cVwi (As := [.int (xs (Int32.toNatClampNeg (x3 + (1 : Int32))))]) (st := [.int r77]) cal_X6_lull ins_X6_lull ml_L_96 rfl (by decide) rfl rfl (by decide) rfl (Nat.le_of_ble_eq_true rfl) dL_law_784 (fun r s h => co_X6_lull h) (fun r79 s80 => ?_)
        refine mv_icmp_eq 1386 dL_law_787 (by decide) ?_ ?_
        · exact vL_law_1386 hX hbl hbA hQ (fun s0 x3 => ih s0 x3) s80 x3
        · refine mv_iconst (v := 0) dL_law_790 ic_0 ?_
          exact mv_lawret hQ rfl dL_law_791
      refine mv_case (fun e20 => ?_) (fun n20 => ?_)
      · refine mv_tsin 20 792 e20 dL_law_33 (by decide) (by decide) rfl (by decide) ?_
        refine mv_aload_n 1 dL_law_792 rfl rfl ?_
        refine mv_aload_n 0 dL_law_793 rfl rfl ?_
        refine mv_iload_n 3 dL_law_794 rfl rfl ?_
        refine mv_iconst (v := 1) dL_law_795 ic_1 ?_
        refine mv_iadd dL_law_796 ?_
        refine mv_scr hX hbl hbA dL_law_797 ?_
        refine mv_aload_n 0 dL_law_798 rfl rfl ?_
        refine mv_iload_n 3 dL_law_799 rfl rfl ?_
        refine mv_iconst (v := 2) dL_law_800 ic_2 ?_
        refine mv_iadd dL_law_801 ?_
        refine mv_scr hX hbl hbA dL_law_802 ?_
        refine mv_cVwi (As := [.int (xs (Int32.toNatClampNeg (x3 + (1 : Int32)))), .int (xs (Int32.toNatClampNeg (x3 + (2 : Int32))))]) (st := []) cal_X5_tear ins_X5_tear ml_L_97 rfl (by decide) rfl rfl (by decide) rfl (Nat.le_of_ble_eq_true rfl) dL_law_803 (fun r s h => co_X5_tear h) (fun r81 s82 => ?_)
        refine mv_aload_n 2 dL_law_806 rfl rfl ?_
        refine mv_aload_n 0 dL_law_807 rfl rfl ?_
        refine mv_iload_n 3 dL_law_808 rfl rfl ?_
        refine mv_iconst (v := 1) dL_law_809 ic_1 ?_
        refine mv_iadd dL_law_810 ?_
        refine mv_scr hX hbl hbA dL_law_811 ?_
        refine mv_aload_n 0 dL_law_812 rfl rfl ?_
        refine mv_iload_n 3 dL_law_813 rfl rfl ?_
        refine mv_iconst (v := 2) dL_law_814 ic_2 ?_
        refine mv_iadd dL_law_815 ?_
        refine mv_scr hX hbl hbA dL_law_816 ?_
        refine mv_cVwi (As := [.int (xs (Int32.toNatClampNeg (x3 + (1 : Int32)))), .int (xs (Int32.toNatClampNeg (x3 + (2 : Int32))))]) (st := [.int r81]) cal_X6_tear ins_X6_tear ml_L_100 rfl (by decide) rfl rfl (by decide) rfl (Nat.le_of_ble_eq_true rfl) dL_law_817 (fun r s h => co_X6_tear h) (fun r83 s84 => ?_)
        refine mv_icmp_eq 1386 dL_law_820 (by decide) ?_ ?_
        · exact vL_law_1386 hX hbl hbA hQ (fun s0 x3 => ih s0 x3) s84 x3
        · refine mv_iconst (v := 0) dL_law_823 ic_0 ?_
          exact mv_lawret hQ rfl dL_law_824
      refine mv_case (fun e21 => ?_) (fun n21 => ?_)
      · refine mv_tsin 21 825 e21 dL_law_33 (by decide) (by decide) rfl (by decide) ?_
        refine mv_aload_n 1 dL_law_825 rfl rfl ?_
        refine mv_aload_n 0 dL_law_826 rfl rfl ?_
        refine mv_iload_n 3 dL_law_827 rfl rfl ?_
        refine mv_iconst (v := 1) dL_law_828 ic_1 ?_
        refine mv_iadd dL_law_829 ?_
        refine mv_scr hX hbl hbA dL_law_830 ?_
        refine mv_aload_n 0 dL_law_831 rfl rfl ?_
        refine mv_iload_n 3 dL_law_832 rfl rfl ?_
        refine mv_iconst (v := 2) dL_law_833 ic_2 ?_
        refine mv_iadd dL_law_834 ?_
        refine mv_scr hX hbl hbA dL_law_835 ?_
        refine mv_cVwi (As := [.int (xs (Int32.toNatClampNeg (x3 + (1 : Int32)))), .int (xs (Int32.toNatClampNeg (x3 + (2 : Int32))))]) (st := []) cal_X5_fits ins_X5_fits ml_L_101 rfl (by decide) rfl rfl (by decide) rfl (Nat.le_of_ble_eq_true rfl) dL_law_836 (fun r s h => co_X5_fits h) (fun r85 s86 => ?_)
        refine mv_aload_n 2 dL_law_839 rfl rfl ?_
        refine mv_aload_n 0 dL_law_840 rfl rfl ?_
        refine mv_iload_n 3 dL_law_841 rfl rfl ?_
        refine mv_iconst (v := 1) dL_law_842 ic_1 ?_
        refine mv_iadd dL_law_843 ?_
        refine mv_scr hX hbl hbA dL_law_844 ?_
        refine mv_aload_n 0 dL_law_845 rfl rfl ?_
        refine mv_iload_n 3 dL_law_846 rfl rfl ?_
        refine mv_iconst (v := 2) dL_law_847 ic_2 ?_
        refine mv_iadd dL_law_848 ?_
        refine mv_scr hX hbl hbA dL_law_849 ?_
        refine mv_cVwi (As := [.int (xs (Int32.toNatClampNeg (x3 + (1 : Int32)))), .int (xs (Int32.toNatClampNeg (x3 + (2 : Int32))))]) (st := [.int r85]) cal_X6_fits ins_X6_fits ml_L_104 rfl (by decide) rfl rfl (by decide) rfl (Nat.le_of_ble_eq_true rfl) dL_law_850 (fun r s h => co_X6_fits h) (fun r87 s88 => ?_)
        refine mv_icmp_eq 1386 dL_law_853 (by decide) ?_ ?_
        · exact vL_law_1386 hX hbl hbA hQ (fun s0 x3 => ih s0 x3) s88 x3
        · refine mv_iconst (v := 0) dL_law_856 ic_0 ?_
          exact mv_lawret hQ rfl dL_law_857
      refine mv_case (fun e22 => ?_) (fun n22 => ?_)
      · refine mv_tsin 22 858 e22 dL_law_33 (by decide) (by decide) rfl (by decide) ?_
        refine mv_aload_n 1 dL_law_858 rfl rfl ?_
        refine mv_aload_n 0 dL_law_859 rfl rfl ?_
        refine mv_iload_n 3 dL_law_860 rfl rfl ?_
        refine mv_iconst (v := 1) dL_law_861 ic_1 ?_
        refine mv_iadd dL_law_862 ?_
        refine mv_scr hX hbl hbA dL_law_863 ?_
        refine mv_aload_n 0 dL_law_864 rfl rfl ?_
        refine mv_iload_n 3 dL_law_865 rfl rfl ?_
        refine mv_iconst (v := 2) dL_law_866 ic_2 ?_
        refine mv_iadd dL_law_867 ?_
        refine mv_scr hX hbl hbA dL_law_868 ?_
        refine mv_cVwi (As := [.int (xs (Int32.toNatClampNeg (x3 + (1 : Int32)))), .int (xs (Int32.toNatClampNeg (x3 + (2 : Int32))))]) (st := []) cal_X5_kinds ins_X5_kinds ml_L_105 rfl (by decide) rfl rfl (by decide) rfl (Nat.le_of_ble_eq_true rfl) dL_law_869 (fun r s h => co_X5_kinds h) (fun r89 s90 => ?_)
        refine mv_aload_n 2 dL_law_872 rfl rfl ?_
        refine mv_aload_n 0 dL_law_873 rfl rfl ?_
        refine mv_iload_n 3 dL_law_874 rfl rfl ?_
        refine mv_iconst (v := 1) dL_law_875 ic_1 ?_
        refine mv_iadd dL_law_876 ?_
        refine mv_scr hX hbl hbA dL_law_877 ?_
        refine mv_aload_n 0 dL_law_878 rfl rfl ?_
        refine mv_iload_n 3 dL_law_879 rfl rfl ?_
        refine mv_iconst (v := 2) dL_law_880 ic_2 ?_
        refine mv_iadd dL_law_881 ?_
        refine mv_scr hX hbl hbA dL_law_882 ?_
        refine mv_cVwi (As := [.int (xs (Int32.toNatClampNeg (x3 + (1 : Int32)))), .int (xs (Int32.toNatClampNeg (x3 + (2 : Int32))))]) (st := [.int r89]) cal_X6_kinds ins_X6_kinds ml_L_108 rfl (by decide) rfl rfl (by decide) rfl (Nat.le_of_ble_eq_true rfl) dL_law_883 (fun r s h => co_X6_kinds h) (fun r91 s92 => ?_)
        refine mv_icmp_eq 1386 dL_law_886 (by decide) ?_ ?_
        · exact vL_law_1386 hX hbl hbA hQ (fun s0 x3 => ih s0 x3) s92 x3
        · refine mv_iconst (v := 0) dL_law_889 ic_0 ?_
          exact mv_lawret hQ rfl dL_law_890
      refine mv_case (fun e23 => ?_) (fun n23 => ?_)
      · refine mv_tsin 23 891 e23 dL_law_33 (by decide) (by decide) rfl (by decide) ?_
        refine mv_aload_n 1 dL_law_891 rfl rfl ?_
        refine mv_aload_n 0 dL_law_892 rfl rfl ?_
        refine mv_iload_n 3 dL_law_893 rfl rfl ?_
        refine mv_iconst (v := 1) dL_law_894 ic_1 ?_
        refine mv_iadd dL_law_895 ?_
        refine mv_scr hX hbl hbA dL_law_896 ?_
        refine mv_cVwi (As := [.int (xs (Int32.toNatClampNeg (x3 + (1 : Int32))))]) (st := []) cal_X5_wakings ins_X5_wakings ml_L_109 rfl (by decide) rfl rfl (by decide) rfl (Nat.le_of_ble_eq_true rfl) dL_law_897 (fun r s h => co_X5_wakings h) (fun r93 s94 => ?_)
        refine mv_aload_n 2 dL_law_900 rfl rfl ?_
        refine mv_aload_n 0 dL_law_901 rfl rfl ?_
        refine mv_iload_n 3 dL_law_902 rfl rfl ?_
        refine mv_iconst (v := 1) dL_law_903 ic_1 ?_
        refine mv_iadd dL_law_904 ?_
        refine mv_scr hX hbl hbA dL_law_905 ?_
        refine mv_cVwi (As := [.int (xs (Int32.toNatClampNeg (x3 + (1 : Int32))))]) (st := [.int r93]) cal_X6_wakings ins_X6_wakings ml_L_112 rfl (by decide) rfl rfl (by decide) rfl (Nat.le_of_ble_eq_true rfl) dL_law_906 (fun r s h => co_X6_wakings h) (fun r95 s96 => ?_)
        refine mv_icmp_eq 1386 dL_law_909 (by decide) ?_ ?_
        · exact vL_law_1386 hX hbl hbA hQ (fun s0 x3 => ih s0 x3) s96 x3
        · refine mv_iconst (v := 0) dL_law_912 ic_0 ?_
          exact mv_lawret hQ rfl dL_law_913
      refine mv_case (fun e24 => ?_) (fun n24 => ?_)
      · refine mv_tsin 24 914 e24 dL_law_33 (by decide) (by decide) rfl (by decide) ?_
        refine mv_aload_n 1 dL_law_914 rfl rfl ?_
        refine mv_aload_n 0 dL_law_915 rfl rfl ?_
        refine mv_iload_n 3 dL_law_916 rfl rfl ?_
        refine mv_iconst (v := 1) dL_law_917 ic_1 ?_
        refine mv_iadd dL_law_918 ?_
        refine mv_scr hX hbl hbA dL_law_919 ?_
        refine mv_aload_n 0 dL_law_920 rfl rfl ?_
        refine mv_iload_n 3 dL_law_921 rfl rfl ?_
        refine mv_iconst (v := 2) dL_law_922 ic_2 ?_
        refine mv_iadd dL_law_923 ?_
        refine mv_scr hX hbl hbA dL_law_924 ?_
        refine mv_aload_n 0 dL_law_925 rfl rfl ?_
        refine mv_iload_n 3 dL_law_926 rfl rfl ?_
        refine mv_iconst (v := 3) dL_law_927 ic_3 ?_
        refine mv_iadd dL_law_928 ?_
        refine mv_scr hX hbl hbA dL_law_929 ?_
        refine mv_cVwl (As := [.int (xs (Int32.toNatClampNeg (x3 + (1 : Int32)))), .int (xs (Int32.toNatClampNeg (x3 + (2 : Int32)))), .int (xs (Int32.toNatClampNeg (x3 + (3 : Int32))))]) (st := []) cal_X5_odds ins_X5_odds ml_L_113 rfl (by decide) rfl rfl (by decide) rfl (Nat.le_of_ble_eq_true rfl) dL_law_930 (fun r s h => co_X5_odds h) (fun r97 s98 => ?_)
        refine mv_aload_n 2 dL_law_933 rfl rfl ?_
        refine mv_aload_n 0 dL_law_934 rfl rfl ?_
        refine mv_iload_n 3 dL_law_935 rfl rfl ?_
        refine mv_iconst (v := 1) dL_law_936 ic_1 ?_
        refine mv_iadd dL_law_937 ?_
        refine mv_scr hX hbl hbA dL_law_938 ?_
        refine mv_aload_n 0 dL_law_939 rfl rfl ?_
        refine mv_iload_n 3 dL_law_940 rfl rfl ?_
        refine mv_iconst (v := 2) dL_law_941 ic_2 ?_
        refine mv_iadd dL_law_942 ?_
        refine mv_scr hX hbl hbA dL_law_943 ?_
        refine mv_aload_n 0 dL_law_944 rfl rfl ?_
        refine mv_iload_n 3 dL_law_945 rfl rfl ?_
        refine mv_iconst (v := 3) dL_law_946 ic_3 ?_
        refine mv_iadd dL_law_947 ?_
        refine mv_scr hX hbl hbA dL_law_948 ?_
        refine mv_cVwl (As := [.int (xs (Int32.toNatClampNeg (x3 + (1 : Int32)))), .int (xs (Int32.toNatClampNeg (x3 + (2 : Int32)))), .int (xs (Int32.toNatClampNeg (x3 + (3 : Int32))))]) (st := [.long r97]) cal_X6_odds ins_X6_odds ml_L_117 rfl (by decide) rfl rfl (by decide) rfl (Nat.le_of_ble_eq_true rfl) dL_law_949 (fun r s h => co_X6_odds h) (fun r99 s100 => ?_)
        refine mv_lcmp dL_law_952 ?_
        refine mv_if_eq 1386 dL_law_953 (by decide) ?_ ?_
        · exact vL_law_1386 hX hbl hbA hQ (fun s0 x3 => ih s0 x3) s100 x3
        · refine mv_iconst (v := 0) dL_law_956 ic_0 ?_
          exact mv_lawret hQ rfl dL_law_957
      refine mv_case (fun e25 => ?_) (fun n25 => ?_)
      · refine mv_tsin 25 958 e25 dL_law_33 (by decide) (by decide) rfl (by decide) ?_
        refine mv_aload_n 1 dL_law_958 rfl rfl ?_
        refine mv_aload_n 0 dL_law_959 rfl rfl ?_
        refine mv_iload_n 3 dL_law_960 rfl rfl ?_
        refine mv_iconst (v := 1) dL_law_961 ic_1 ?_
        refine mv_iadd dL_law_962 ?_
        refine mv_scr hX hbl hbA dL_law_963 ?_
        refine mv_cVwi (As := [.int (xs (Int32.toNatClampNeg (x3 + (1 : Int32))))]) (st := []) cal_X5_seed ins_X5_seed ml_L_118 rfl (by decide) rfl rfl (by decide) rfl (Nat.le_of_ble_eq_true rfl) dL_law_964 (fun r s h => co_X5_seed h) (fun r101 s102 => ?_)
        refine mv_aload_n 2 dL_law_967 rfl rfl ?_
        refine mv_aload_n 0 dL_law_968 rfl rfl ?_
        refine mv_iload_n 3 dL_law_969 rfl rfl ?_
        refine mv_iconst (v := 1) dL_law_970 ic_1 ?_
        refine mv_iadd dL_law_971 ?_
        refine mv_scr hX hbl hbA dL_law_972 ?_
        refine mv_cVwi (As := [.int (xs (Int32.toNatClampNeg (x3 + (1 : Int32))))]) (st := [.int r101]) cal_X6_seed ins_X6_seed ml_L_121 rfl (by decide) rfl rfl (by decide) rfl (Nat.le_of_ble_eq_true rfl) dL_law_973 (fun r s h => co_X6_seed h) (fun r103 s104 => ?_)
        refine mv_icmp_eq 1386 dL_law_976 (by decide) ?_ ?_
        · exact vL_law_1386 hX hbl hbA hQ (fun s0 x3 => ih s0 x3) s104 x3
        · refine mv_iconst (v := 0) dL_law_979 ic_0 ?_
          exact mv_lawret hQ rfl dL_law_980
      refine mv_case (fun e26 => ?_) (fun n26 => ?_)
      · refine mv_tsin 26 981 e26 dL_law_33 (by decide) (by decide) rfl (by decide) ?_
        refine mv_aload_n 1 dL_law_981 rfl rfl ?_
        refine mv_aload_n 0 dL_law_982 rfl rfl ?_
        refine mv_iload_n 3 dL_law_983 rfl rfl ?_
        refine mv_iconst (v := 1) dL_law_984 ic_1 ?_
        refine mv_iadd dL_law_985 ?_
        refine mv_scr hX hbl hbA dL_law_986 ?_
        refine mv_aload_n 0 dL_law_987 rfl rfl ?_
        refine mv_iload_n 3 dL_law_988 rfl rfl ?_
        refine mv_iconst (v := 2) dL_law_989 ic_2 ?_
        refine mv_iadd dL_law_990 ?_
        refine mv_scr hX hbl hbA dL_law_991 ?_
        refine mv_cVwi (As := [.int (xs (Int32.toNatClampNeg (x3 + (1 : Int32)))), .int (xs (Int32.toNatClampNeg (x3 + (2 : Int32))))]) (st := []) cal_X5_feed ins_X5_feed ml_L_122 rfl (by decide) rfl rfl (by decide) rfl (Nat.le_of_ble_eq_true rfl) dL_law_992 (fun r s h => co_X5_feed h) (fun r105 s106 => ?_)
        refine mv_aload_n 2 dL_law_995 rfl rfl ?_
        refine mv_aload_n 0 dL_law_996 rfl rfl ?_
        refine mv_iload_n 3 dL_law_997 rfl rfl ?_
        refine mv_iconst (v := 1) dL_law_998 ic_1 ?_
        refine mv_iadd dL_law_999 ?_
        refine mv_scr hX hbl hbA dL_law_1000 ?_
        refine mv_aload_n 0 dL_law_1001 rfl rfl ?_
        refine mv_iload_n 3 dL_law_1002 rfl rfl ?_
        refine mv_iconst (v := 2) dL_law_1003 ic_2 ?_
        refine mv_iadd dL_law_1004 ?_
        refine mv_scr hX hbl hbA dL_law_1005 ?_
        refine mv_cVwi (As := [.int (xs (Int32.toNatClampNeg (x3 + (1 : Int32)))), .int (xs (Int32.toNatClampNeg (x3 + (2 : Int32))))]) (st := [.int r105]) cal_X6_feed ins_X6_feed ml_L_125 rfl (by decide) rfl rfl (by decide) rfl (Nat.le_of_ble_eq_true rfl) dL_law_1006 (fun r s h => co_X6_feed h) (fun r107 s108 => ?_)
        refine mv_icmp_eq 1386 dL_law_1009 (by decide) ?_ ?_
        · exact vL_law_1386 hX hbl hbA hQ (fun s0 x3 => ih s0 x3) s108 x3
        · refine mv_iconst (v := 0) dL_law_1012 ic_0 ?_
          exact mv_lawret hQ rfl dL_law_1013
      refine mv_case (fun e27 => ?_) (fun n27 => ?_)
      · refine mv_tsin 27 1014 e27 dL_law_33 (by decide) (by decide) rfl (by decide) ?_
        refine mv_aload_n 1 dL_law_1014 rfl rfl ?_
        refine mv_cVwi (As := []) (st := []) cal_X5_wipe ins_X5_wipe ml_L_126 rfl (by decide) rfl rfl (by decide) rfl (Nat.le_of_ble_eq_true rfl) dL_law_1015 (fun r s h => co_X5_wipe h) (fun r109 s110 => ?_)
        refine mv_aload_n 2 dL_law_1018 rfl rfl ?_
        refine mv_cVwi (As := []) (st := [.int r109]) cal_X6_wipe ins_X6_wipe ml_L_129 rfl (by decide) rfl rfl (by decide) rfl (Nat.le_of_ble_eq_true rfl) dL_law_1019 (fun r s h => co_X6_wipe h) (fun r111 s112 => ?_)
        refine mv_icmp_eq 1386 dL_law_1022 (by decide) ?_ ?_
        · exact vL_law_1386 hX hbl hbA hQ (fun s0 x3 => ih s0 x3) s112 x3
        · refine mv_iconst (v := 0) dL_law_1025 ic_0 ?_
          exact mv_lawret hQ rfl dL_law_1026
      refine mv_case (fun e28 => ?_) (fun n28 => ?_)
      · refine mv_tsin 28 1027 e28 dL_law_33 (by decide) (by decide) rfl (by decide) ?_
        refine mv_aload_n 1 dL_law_1027 rfl rfl ?_
        refine mv_cVwi (As := []) (st := []) cal_X5_text ins_X5_text ml_L_130 rfl (by decide) rfl rfl (by decide) rfl (Nat.le_of_ble_eq_true rfl) dL_law_1028 (fun r s h => co_X5_text h) (fun r113 s114 => ?_)
        refine mv_aload_n 2 dL_law_1031 rfl rfl ?_
        refine mv_cVwi (As := []) (st := [.int r113]) cal_X6_text ins_X6_text ml_L_133 rfl (by decide) rfl rfl (by decide) rfl (Nat.le_of_ble_eq_true rfl) dL_law_1032 (fun r s h => co_X6_text h) (fun r115 s116 => ?_)
        refine mv_icmp_eq 1386 dL_law_1035 (by decide) ?_ ?_
        · exact vL_law_1386 hX hbl hbA hQ (fun s0 x3 => ih s0 x3) s116 x3
        · refine mv_iconst (v := 0) dL_law_1038 ic_0 ?_
          exact mv_lawret hQ rfl dL_law_1039
      refine mv_case (fun e29 => ?_) (fun n29 => ?_)
      · refine mv_tsin 29 1040 e29 dL_law_33 (by decide) (by decide) rfl (by decide) ?_
        refine mv_aload_n 1 dL_law_1040 rfl rfl ?_
        refine mv_aload_n 0 dL_law_1041 rfl rfl ?_
        refine mv_iload_n 3 dL_law_1042 rfl rfl ?_
        refine mv_iconst (v := 1) dL_law_1043 ic_1 ?_
        refine mv_iadd dL_law_1044 ?_
        refine mv_scr hX hbl hbA dL_law_1045 ?_
        refine mv_aload_n 0 dL_law_1046 rfl rfl ?_
        refine mv_iload_n 3 dL_law_1047 rfl rfl ?_
        refine mv_iconst (v := 2) dL_law_1048 ic_2 ?_
        refine mv_iadd dL_law_1049 ?_
        refine mv_scr hX hbl hbA dL_law_1050 ?_
        refine mv_cVwi (As := [.int (xs (Int32.toNatClampNeg (x3 + (1 : Int32)))), .int (xs (Int32.toNatClampNeg (x3 + (2 : Int32))))]) (st := []) cal_X5_hold ins_X5_hold ml_L_134 rfl (by decide) rfl rfl (by decide) rfl (Nat.le_of_ble_eq_true rfl) dL_law_1051 (fun r s h => co_X5_hold h) (fun r117 s118 => ?_)
        refine mv_aload_n 2 dL_law_1054 rfl rfl ?_
        refine mv_aload_n 0 dL_law_1055 rfl rfl ?_
        refine mv_iload_n 3 dL_law_1056 rfl rfl ?_
        refine mv_iconst (v := 1) dL_law_1057 ic_1 ?_
        refine mv_iadd dL_law_1058 ?_
        refine mv_scr hX hbl hbA dL_law_1059 ?_
        refine mv_aload_n 0 dL_law_1060 rfl rfl ?_
        refine mv_iload_n 3 dL_law_1061 rfl rfl ?_
        refine mv_iconst (v := 2) dL_law_1062 ic_2 ?_
        refine mv_iadd dL_law_1063 ?_
        refine mv_scr hX hbl hbA dL_law_1064 ?_
        refine mv_cVwi (As := [.int (xs (Int32.toNatClampNeg (x3 + (1 : Int32)))), .int (xs (Int32.toNatClampNeg (x3 + (2 : Int32))))]) (st := [.int r117]) cal_X6_hold ins_X6_hold ml_L_137 rfl (by decide) rfl rfl (by decide) rfl (Nat.le_of_ble_eq_true rfl) dL_law_1065 (fun r s h => co_X6_hold h) (fun r119 s120 => ?_)
        refine mv_icmp_eq 1386 dL_law_1068 (by decide) ?_ ?_
        · exact vL_law_1386 hX hbl hbA hQ (fun s0 x3 => ih s0 x3) s120 x3
        · refine mv_iconst (v := 0) dL_law_1071 ic_0 ?_
          exact mv_lawret hQ rfl dL_law_1072
      refine mv_case (fun e30 => ?_) (fun n30 => ?_)
      · refine mv_tsin 30 1073 e30 dL_law_33 (by decide) (by decide) rfl (by decide) ?_
        refine mv_aload_n 1 dL_law_1073 rfl rfl ?_
        refine mv_aload_n 0 dL_law_1074 rfl rfl ?_
        refine mv_iload_n 3 dL_law_1075 rfl rfl ?_
        refine mv_iconst (v := 1) dL_law_1076 ic_1 ?_
        refine mv_iadd dL_law_1077 ?_
        refine mv_scr hX hbl hbA dL_law_1078 ?_
        refine mv_aload_n 0 dL_law_1079 rfl rfl ?_
        refine mv_iload_n 3 dL_law_1080 rfl rfl ?_
        refine mv_iconst (v := 2) dL_law_1081 ic_2 ?_
        refine mv_iadd dL_law_1082 ?_
        refine mv_scr hX hbl hbA dL_law_1083 ?_
        refine mv_cVwi (As := [.int (xs (Int32.toNatClampNeg (x3 + (1 : Int32)))), .int (xs (Int32.toNatClampNeg (x3 + (2 : Int32))))]) (st := []) cal_X5_as ins_X5_as ml_L_138 rfl (by decide) rfl rfl (by decide) rfl (Nat.le_of_ble_eq_true rfl) dL_law_1084 (fun r s h => co_X5_as h) (fun r121 s122 => ?_)
        refine mv_aload_n 2 dL_law_1087 rfl rfl ?_
        refine mv_aload_n 0 dL_law_1088 rfl rfl ?_
        refine mv_iload_n 3 dL_law_1089 rfl rfl ?_
        refine mv_iconst (v := 1) dL_law_1090 ic_1 ?_
        refine mv_iadd dL_law_1091 ?_
        refine mv_scr hX hbl hbA dL_law_1092 ?_
        refine mv_aload_n 0 dL_law_1093 rfl rfl ?_
        refine mv_iload_n 3 dL_law_1094 rfl rfl ?_
        refine mv_iconst (v := 2) dL_law_1095 ic_2 ?_
        refine mv_iadd dL_law_1096 ?_
        refine mv_scr hX hbl hbA dL_law_1097 ?_
        refine mv_cVwi (As := [.int (xs (Int32.toNatClampNeg (x3 + (1 : Int32)))), .int (xs (Int32.toNatClampNeg (x3 + (2 : Int32))))]) (st := [.int r121]) cal_X6_as ins_X6_as ml_L_141 rfl (by decide) rfl rfl (by decide) rfl (Nat.le_of_ble_eq_true rfl) dL_law_1098 (fun r s h => co_X6_as h) (fun r123 s124 => ?_)
        refine mv_icmp_eq 1386 dL_law_1101 (by decide) ?_ ?_
        · exact vL_law_1386 hX hbl hbA hQ (fun s0 x3 => ih s0 x3) s124 x3
        · refine mv_iconst (v := 0) dL_law_1104 ic_0 ?_
          exact mv_lawret hQ rfl dL_law_1105
      refine mv_case (fun e31 => ?_) (fun n31 => ?_)
      · refine mv_tsin 31 1106 e31 dL_law_33 (by decide) (by decide) rfl (by decide) ?_
        refine mv_aload_n 1 dL_law_1106 rfl rfl ?_
        refine mv_aload_n 0 dL_law_1107 rfl rfl ?_
        refine mv_iload_n 3 dL_law_1108 rfl rfl ?_
        refine mv_iconst (v := 1) dL_law_1109 ic_1 ?_
        refine mv_iadd dL_law_1110 ?_
        refine mv_scr hX hbl hbA dL_law_1111 ?_
        refine mv_aload_n 0 dL_law_1112 rfl rfl ?_
        refine mv_iload_n 3 dL_law_1113 rfl rfl ?_
        refine mv_iconst (v := 2) dL_law_1114 ic_2 ?_
        refine mv_iadd dL_law_1115 ?_
        refine mv_scr hX hbl hbA dL_law_1116 ?_
        refine mv_aload_n 0 dL_law_1117 rfl rfl ?_
        refine mv_iload_n 3 dL_law_1118 rfl rfl ?_
        refine mv_iconst (v := 3) dL_law_1119 ic_3 ?_
        refine mv_iadd dL_law_1120 ?_
        refine mv_scr hX hbl hbA dL_law_1121 ?_
        refine mv_cVwi (As := [.int (xs (Int32.toNatClampNeg (x3 + (1 : Int32)))), .int (xs (Int32.toNatClampNeg (x3 + (2 : Int32)))), .int (xs (Int32.toNatClampNeg (x3 + (3 : Int32))))]) (st := []) cal_X5_sheet ins_X5_sheet ml_L_142 rfl (by decide) rfl rfl (by decide) rfl (Nat.le_of_ble_eq_true rfl) dL_law_1122 (fun r s h => co_X5_sheet h) (fun r125 s126 => ?_)
        refine mv_aload_n 2 dL_law_1125 rfl rfl ?_
        refine mv_aload_n 0 dL_law_1126 rfl rfl ?_
        refine mv_iload_n 3 dL_law_1127 rfl rfl ?_
        refine mv_iconst (v := 1) dL_law_1128 ic_1 ?_
        refine mv_iadd dL_law_1129 ?_
        refine mv_scr hX hbl hbA dL_law_1130 ?_
        refine mv_aload_n 0 dL_law_1131 rfl rfl ?_
        refine mv_iload_n 3 dL_law_1132 rfl rfl ?_
        refine mv_iconst (v := 2) dL_law_1133 ic_2 ?_
        refine mv_iadd dL_law_1134 ?_
        refine mv_scr hX hbl hbA dL_law_1135 ?_
        refine mv_aload_n 0 dL_law_1136 rfl rfl ?_
        refine mv_iload_n 3 dL_law_1137 rfl rfl ?_
        refine mv_iconst (v := 3) dL_law_1138 ic_3 ?_
        refine mv_iadd dL_law_1139 ?_
        refine mv_scr hX hbl hbA dL_law_1140 ?_
        refine mv_cVwi (As := [.int (xs (Int32.toNatClampNeg (x3 + (1 : Int32)))), .int (xs (Int32.toNatClampNeg (x3 + (2 : Int32)))), .int (xs (Int32.toNatClampNeg (x3 + (3 : Int32))))]) (st := [.int r125]) cal_X6_sheet ins_X6_sheet ml_L_145 rfl (by decide) rfl rfl (by decide) rfl (Nat.le_of_ble_eq_true rfl) dL_law_1141 (fun r s h => co_X6_sheet h) (fun r127 s128 => ?_)
        refine mv_icmp_eq 1386 dL_law_1144 (by decide) ?_ ?_
        · exact vL_law_1386 hX hbl hbA hQ (fun s0 x3 => ih s0 x3) s128 x3
        · refine mv_iconst (v := 0) dL_law_1147 ic_0 ?_
          exact mv_lawret hQ rfl dL_law_1148
      refine mv_case (fun e32 => ?_) (fun n32 => ?_)
      · refine mv_tsin 32 1149 e32 dL_law_33 (by decide) (by decide) rfl (by decide) ?_
        refine mv_aload_n 1 dL_law_1149 rfl rfl ?_
        refine mv_aload_n 0 dL_law_1150 rfl rfl ?_
        refine mv_iload_n 3 dL_law_1151 rfl rfl ?_
        refine mv_iconst (v := 1) dL_law_1152 ic_1 ?_
        refine mv_iadd dL_law_1153 ?_
        refine mv_scr hX hbl hbA dL_law_1154 ?_
        refine mv_aload_n 0 dL_law_1155 rfl rfl ?_
        refine mv_iload_n 3 dL_law_1156 rfl rfl ?_
        refine mv_iconst (v := 2) dL_law_1157 ic_2 ?_
        refine mv_iadd dL_law_1158 ?_
        refine mv_scr hX hbl hbA dL_law_1159 ?_
        refine mv_aload_n 0 dL_law_1160 rfl rfl ?_
        refine mv_iload_n 3 dL_law_1161 rfl rfl ?_
        refine mv_iconst (v := 3) dL_law_1162 ic_3 ?_
        refine mv_iadd dL_law_1163 ?_
        refine mv_scr hX hbl hbA dL_law_1164 ?_
        refine mv_cVwi (As := [.int (xs (Int32.toNatClampNeg (x3 + (1 : Int32)))), .int (xs (Int32.toNatClampNeg (x3 + (2 : Int32)))), .int (xs (Int32.toNatClampNeg (x3 + (3 : Int32))))]) (st := []) cal_X5_write ins_X5_write ml_L_146 rfl (by decide) rfl rfl (by decide) rfl (Nat.le_of_ble_eq_true rfl) dL_law_1165 (fun r s h => co_X5_write h) (fun r129 s130 => ?_)
        refine mv_aload_n 2 dL_law_1168 rfl rfl ?_
        refine mv_aload_n 0 dL_law_1169 rfl rfl ?_
        refine mv_iload_n 3 dL_law_1170 rfl rfl ?_
        refine mv_iconst (v := 1) dL_law_1171 ic_1 ?_
        refine mv_iadd dL_law_1172 ?_
        refine mv_scr hX hbl hbA dL_law_1173 ?_
        refine mv_aload_n 0 dL_law_1174 rfl rfl ?_
        refine mv_iload_n 3 dL_law_1175 rfl rfl ?_
        refine mv_iconst (v := 2) dL_law_1176 ic_2 ?_
        refine mv_iadd dL_law_1177 ?_
        refine mv_scr hX hbl hbA dL_law_1178 ?_
        refine mv_aload_n 0 dL_law_1179 rfl rfl ?_
        refine mv_iload_n 3 dL_law_1180 rfl rfl ?_
        refine mv_iconst (v := 3) dL_law_1181 ic_3 ?_
        refine mv_iadd dL_law_1182 ?_
        refine mv_scr hX hbl hbA dL_law_1183 ?_
        refine mv_cVwi (As := [.int (xs (Int32.toNatClampNeg (x3 + (1 : Int32)))), .int (xs (Int32.toNatClampNeg (x3 + (2 : Int32)))), .int (xs (Int32.toNatClampNeg (x3 + (3 : Int32))))]) (st := [.int r129]) cal_X6_write ins_X6_write ml_L_149 rfl (by decide) rfl rfl (by decide) rfl (Nat.le_of_ble_eq_true rfl) dL_law_1184 (fun r s h => co_X6_write h) (fun r131 s132 => ?_)
        refine mv_icmp_eq 1386 dL_law_1187 (by decide) ?_ ?_
        · exact vL_law_1386 hX hbl hbA hQ (fun s0 x3 => ih s0 x3) s132 x3
        · refine mv_iconst (v := 0) dL_law_1190 ic_0 ?_
          exact mv_lawret hQ rfl dL_law_1191
      refine mv_case (fun e33 => ?_) (fun n33 => ?_)
      · refine mv_tsin 33 1192 e33 dL_law_33 (by decide) (by decide) rfl (by decide) ?_
        refine mv_aload_n 1 dL_law_1192 rfl rfl ?_
        refine mv_aload_n 0 dL_law_1193 rfl rfl ?_
        refine mv_iload_n 3 dL_law_1194 rfl rfl ?_
        refine mv_iconst (v := 1) dL_law_1195 ic_1 ?_
        refine mv_iadd dL_law_1196 ?_
        refine mv_scr hX hbl hbA dL_law_1197 ?_
        refine mv_aload_n 0 dL_law_1198 rfl rfl ?_
        refine mv_iload_n 3 dL_law_1199 rfl rfl ?_
        refine mv_iconst (v := 2) dL_law_1200 ic_2 ?_
        refine mv_iadd dL_law_1201 ?_
        refine mv_scr hX hbl hbA dL_law_1202 ?_
        refine mv_aload_n 0 dL_law_1203 rfl rfl ?_
        refine mv_iload_n 3 dL_law_1204 rfl rfl ?_
        refine mv_iconst (v := 3) dL_law_1205 ic_3 ?_
        refine mv_iadd dL_law_1206 ?_
        refine mv_scr hX hbl hbA dL_law_1207 ?_
        refine mv_aload_n 0 dL_law_1208 rfl rfl ?_
        refine mv_iload_n 3 dL_law_1209 rfl rfl ?_
        refine mv_iconst (v := 4) dL_law_1210 ic_4 ?_
        refine mv_iadd dL_law_1211 ?_
        refine mv_scr hX hbl hbA dL_law_1212 ?_
        refine mv_aload_n 0 dL_law_1213 rfl rfl ?_
        refine mv_iload_n 3 dL_law_1214 rfl rfl ?_
        refine mv_iconst (v := 5) dL_law_1215 ic_5 ?_
        refine mv_iadd dL_law_1216 ?_
        refine mv_scr hX hbl hbA dL_law_1217 ?_
        refine mv_cVwi (As := [.int (xs (Int32.toNatClampNeg (x3 + (1 : Int32)))), .int (xs (Int32.toNatClampNeg (x3 + (2 : Int32)))), .int (xs (Int32.toNatClampNeg (x3 + (3 : Int32)))), .int (xs (Int32.toNatClampNeg (x3 + (4 : Int32)))), .int (xs (Int32.toNatClampNeg (x3 + (5 : Int32))))]) (st := []) cal_X5_copy ins_X5_copy ml_L_150 rfl (by decide) rfl rfl (by decide) rfl (Nat.le_of_ble_eq_true rfl) dL_law_1218 (fun r s h => co_X5_copy h) (fun r133 s134 => ?_)
        refine mv_aload_n 2 dL_law_1221 rfl rfl ?_
        refine mv_aload_n 0 dL_law_1222 rfl rfl ?_
        refine mv_iload_n 3 dL_law_1223 rfl rfl ?_
        refine mv_iconst (v := 1) dL_law_1224 ic_1 ?_
        refine mv_iadd dL_law_1225 ?_
        refine mv_scr hX hbl hbA dL_law_1226 ?_
        refine mv_aload_n 0 dL_law_1227 rfl rfl ?_
        refine mv_iload_n 3 dL_law_1228 rfl rfl ?_
        refine mv_iconst (v := 2) dL_law_1229 ic_2 ?_
        refine mv_iadd dL_law_1230 ?_
        refine mv_scr hX hbl hbA dL_law_1231 ?_
        refine mv_aload_n 0 dL_law_1232 rfl rfl ?_
        refine mv_iload_n 3 dL_law_1233 rfl rfl ?_
        refine mv_iconst (v := 3) dL_law_1234 ic_3 ?_
        refine mv_iadd dL_law_1235 ?_
        refine mv_scr hX hbl hbA dL_law_1236 ?_
        refine mv_aload_n 0 dL_law_1237 rfl rfl ?_
        refine mv_iload_n 3 dL_law_1238 rfl rfl ?_
        refine mv_iconst (v := 4) dL_law_1239 ic_4 ?_
        refine mv_iadd dL_law_1240 ?_
        refine mv_scr hX hbl hbA dL_law_1241 ?_
        refine mv_aload_n 0 dL_law_1242 rfl rfl ?_
        refine mv_iload_n 3 dL_law_1243 rfl rfl ?_
        refine mv_iconst (v := 5) dL_law_1244 ic_5 ?_
        refine mv_iadd dL_law_1245 ?_
        refine mv_scr hX hbl hbA dL_law_1246 ?_
        refine mv_cVwi (As := [.int (xs (Int32.toNatClampNeg (x3 + (1 : Int32)))), .int (xs (Int32.toNatClampNeg (x3 + (2 : Int32)))), .int (xs (Int32.toNatClampNeg (x3 + (3 : Int32)))), .int (xs (Int32.toNatClampNeg (x3 + (4 : Int32)))), .int (xs (Int32.toNatClampNeg (x3 + (5 : Int32))))]) (st := [.int r133]) cal_X6_copy ins_X6_copy ml_L_154 rfl (by decide) rfl rfl (by decide) rfl (Nat.le_of_ble_eq_true rfl) dL_law_1247 (fun r s h => co_X6_copy h) (fun r135 s136 => ?_)
        refine mv_icmp_eq 1386 dL_law_1250 (by decide) ?_ ?_
        · exact vL_law_1386 hX hbl hbA hQ (fun s0 x3 => ih s0 x3) s136 x3
        · refine mv_iconst (v := 0) dL_law_1253 ic_0 ?_
          exact mv_lawret hQ rfl dL_law_1254
      refine mv_case (fun e34 => ?_) (fun n34 => ?_)
      · refine mv_tsin 34 1255 e34 dL_law_33 (by decide) (by decide) rfl (by decide) ?_
        refine mv_aload_n 1 dL_law_1255 rfl rfl ?_
        refine mv_aload_n 0 dL_law_1256 rfl rfl ?_
        refine mv_iload_n 3 dL_law_1257 rfl rfl ?_
        refine mv_iconst (v := 1) dL_law_1258 ic_1 ?_
        refine mv_iadd dL_law_1259 ?_
        refine mv_scr hX hbl hbA dL_law_1260 ?_
        refine mv_cVwi (As := [.int (xs (Int32.toNatClampNeg (x3 + (1 : Int32))))]) (st := []) cal_X5_load ins_X5_load ml_L_155 rfl (by decide) rfl rfl (by decide) rfl (Nat.le_of_ble_eq_true rfl) dL_law_1261 (fun r s h => co_X5_load h) (fun r137 s138 => ?_)
        refine mv_aload_n 2 dL_law_1264 rfl rfl ?_
        refine mv_aload_n 0 dL_law_1265 rfl rfl ?_
        refine mv_iload_n 3 dL_law_1266 rfl rfl ?_
        refine mv_iconst (v := 1) dL_law_1267 ic_1 ?_
        refine mv_iadd dL_law_1268 ?_
        refine mv_scr hX hbl hbA dL_law_1269 ?_
        refine mv_cVwi (As := [.int (xs (Int32.toNatClampNeg (x3 + (1 : Int32))))]) (st := [.int r137]) cal_X6_load ins_X6_load ml_L_158 rfl (by decide) rfl rfl (by decide) rfl (Nat.le_of_ble_eq_true rfl) dL_law_1270 (fun r s h => co_X6_load h) (fun r139 s140 => ?_)
        refine mv_icmp_eq 1386 dL_law_1273 (by decide) ?_ ?_
        · exact vL_law_1386 hX hbl hbA hQ (fun s0 x3 => ih s0 x3) s140 x3
        · refine mv_iconst (v := 0) dL_law_1276 ic_0 ?_
          exact mv_lawret hQ rfl dL_law_1277
      refine mv_case (fun e35 => ?_) (fun n35 => ?_)
      · refine mv_tsin 35 1278 e35 dL_law_33 (by decide) (by decide) rfl (by decide) ?_
        refine mv_aload_n 1 dL_law_1278 rfl rfl ?_
        refine mv_aload_n 0 dL_law_1279 rfl rfl ?_
        refine mv_iload_n 3 dL_law_1280 rfl rfl ?_
        refine mv_iconst (v := 1) dL_law_1281 ic_1 ?_
        refine mv_iadd dL_law_1282 ?_
        refine mv_scr hX hbl hbA dL_law_1283 ?_
        refine mv_cVwi (As := [.int (xs (Int32.toNatClampNeg (x3 + (1 : Int32))))]) (st := []) cal_X5_judge ins_X5_judge ml_L_159 rfl (by decide) rfl rfl (by decide) rfl (Nat.le_of_ble_eq_true rfl) dL_law_1284 (fun r s h => co_X5_judge h) (fun r141 s142 => ?_)
        refine mv_aload_n 2 dL_law_1287 rfl rfl ?_
        refine mv_aload_n 0 dL_law_1288 rfl rfl ?_
        refine mv_iload_n 3 dL_law_1289 rfl rfl ?_
        refine mv_iconst (v := 1) dL_law_1290 ic_1 ?_
        refine mv_iadd dL_law_1291 ?_
        refine mv_scr hX hbl hbA dL_law_1292 ?_
        refine mv_cVwi (As := [.int (xs (Int32.toNatClampNeg (x3 + (1 : Int32))))]) (st := [.int r141]) cal_X6_judge ins_X6_judge ml_L_162 rfl (by decide) rfl rfl (by decide) rfl (Nat.le_of_ble_eq_true rfl) dL_law_1293 (fun r s h => co_X6_judge h) (fun r143 s144 => ?_)
        refine mv_icmp_eq 1386 dL_law_1296 (by decide) ?_ ?_
        · exact vL_law_1386 hX hbl hbA hQ (fun s0 x3 => ih s0 x3) s144 x3
        · refine mv_iconst (v := 0) dL_law_1299 ic_0 ?_
          exact mv_lawret hQ rfl dL_law_1300
      refine mv_case (fun e36 => ?_) (fun n36 => ?_)
      · refine mv_tsin 36 1301 e36 dL_law_33 (by decide) (by decide) rfl (by decide) ?_
        refine mv_aload_n 1 dL_law_1301 rfl rfl ?_
        refine mv_cVwi (As := []) (st := []) cal_X5_image ins_X5_image ml_L_163 rfl (by decide) rfl rfl (by decide) rfl (Nat.le_of_ble_eq_true rfl) dL_law_1302 (fun r s h => co_X5_image h) (fun r145 s146 => ?_)
        refine mv_aload_n 2 dL_law_1305 rfl rfl ?_
        refine mv_cVwi (As := []) (st := [.int r145]) cal_X6_image ins_X6_image ml_L_166 rfl (by decide) rfl rfl (by decide) rfl (Nat.le_of_ble_eq_true rfl) dL_law_1306 (fun r s h => co_X6_image h) (fun r147 s148 => ?_)
        refine mv_icmp_eq 1386 dL_law_1309 (by decide) ?_ ?_
        · exact vL_law_1386 hX hbl hbA hQ (fun s0 x3 => ih s0 x3) s148 x3
        · refine mv_iconst (v := 0) dL_law_1312 ic_0 ?_
          exact mv_lawret hQ rfl dL_law_1313
      refine mv_case (fun e37 => ?_) (fun n37 => ?_)
      · refine mv_tsin 37 1314 e37 dL_law_33 (by decide) (by decide) rfl (by decide) ?_
        refine mv_aload_n 1 dL_law_1314 rfl rfl ?_
        refine mv_cVwi (As := []) (st := []) cal_X5_undo ins_X5_undo ml_L_167 rfl (by decide) rfl rfl (by decide) rfl (Nat.le_of_ble_eq_true rfl) dL_law_1315 (fun r s h => co_X5_undo h) (fun r149 s150 => ?_)
        refine mv_aload_n 2 dL_law_1318 rfl rfl ?_
        refine mv_cVwi (As := []) (st := [.int r149]) cal_X6_undo ins_X6_undo ml_L_170 rfl (by decide) rfl rfl (by decide) rfl (Nat.le_of_ble_eq_true rfl) dL_law_1319 (fun r s h => co_X6_undo h) (fun r151 s152 => ?_)
        refine mv_icmp_eq 1386 dL_law_1322 (by decide) ?_ ?_
        · exact vL_law_1386 hX hbl hbA hQ (fun s0 x3 => ih s0 x3) s152 x3
        · refine mv_iconst (v := 0) dL_law_1325 ic_0 ?_
          exact mv_lawret hQ rfl dL_law_1326
      refine mv_case (fun e38 => ?_) (fun n38 => ?_)
      · refine mv_tsin 38 1327 e38 dL_law_33 (by decide) (by decide) rfl (by decide) ?_
        refine mv_aload_n 1 dL_law_1327 rfl rfl ?_
        refine mv_cVwi (As := []) (st := []) cal_X5_forget ins_X5_forget ml_L_171 rfl (by decide) rfl rfl (by decide) rfl (Nat.le_of_ble_eq_true rfl) dL_law_1328 (fun r s h => co_X5_forget h) (fun r153 s154 => ?_)
        refine mv_aload_n 2 dL_law_1331 rfl rfl ?_
        refine mv_cVwi (As := []) (st := [.int r153]) cal_X6_forget ins_X6_forget ml_L_174 rfl (by decide) rfl rfl (by decide) rfl (Nat.le_of_ble_eq_true rfl) dL_law_1332 (fun r s h => co_X6_forget h) (fun r155 s156 => ?_)
        refine mv_icmp_eq 1386 dL_law_1335 (by decide) ?_ ?_
        · exact vL_law_1386 hX hbl hbA hQ (fun s0 x3 => ih s0 x3) s156 x3
        · refine mv_iconst (v := 0) dL_law_1338 ic_0 ?_
          exact mv_lawret hQ rfl dL_law_1339
      refine mv_case (fun e39 => ?_) (fun n39 => ?_)
      · refine mv_tsin 39 1340 e39 dL_law_33 (by decide) (by decide) rfl (by decide) ?_
        refine mv_aload_n 1 dL_law_1340 rfl rfl ?_
        refine mv_aload_n 0 dL_law_1341 rfl rfl ?_
        refine mv_iload_n 3 dL_law_1342 rfl rfl ?_
        refine mv_iconst (v := 1) dL_law_1343 ic_1 ?_
        refine mv_iadd dL_law_1344 ?_
        refine mv_scr hX hbl hbA dL_law_1345 ?_
        refine mv_cVwi (As := [.int (xs (Int32.toNatClampNeg (x3 + (1 : Int32))))]) (st := []) cal_X5_count ins_X5_count ml_L_175 rfl (by decide) rfl rfl (by decide) rfl (Nat.le_of_ble_eq_true rfl) dL_law_1346 (fun r s h => co_X5_count h) (fun r157 s158 => ?_)
        refine mv_aload_n 2 dL_law_1349 rfl rfl ?_
        refine mv_aload_n 0 dL_law_1350 rfl rfl ?_
        refine mv_iload_n 3 dL_law_1351 rfl rfl ?_
        refine mv_iconst (v := 1) dL_law_1352 ic_1 ?_
        refine mv_iadd dL_law_1353 ?_
        refine mv_scr hX hbl hbA dL_law_1354 ?_
        refine mv_cVwi (As := [.int (xs (Int32.toNatClampNeg (x3 + (1 : Int32))))]) (st := [.int r157]) cal_X6_count ins_X6_count ml_L_178 rfl (by decide) rfl rfl (by decide) rfl (Nat.le_of_ble_eq_true rfl) dL_law_1355 (fun r s h => co_X6_count h) (fun r159 s160 => ?_)
        refine mv_icmp_eq 1386 dL_law_1358 (by decide) ?_ ?_
        · exact vL_law_1386 hX hbl hbA hQ (fun s0 x3 => ih s0 x3) s160 x3
        · refine mv_iconst (v := 0) dL_law_1361 ic_0 ?_
          exact mv_lawret hQ rfl dL_law_1362
      refine mv_case (fun e40 => ?_) (fun n40 => ?_)
      · refine mv_tsin 40 1363 e40 dL_law_33 (by decide) (by decide) rfl (by decide) ?_
        refine mv_aload_n 1 dL_law_1363 rfl rfl ?_
        refine mv_aload_n 0 dL_law_1364 rfl rfl ?_
        refine mv_iload_n 3 dL_law_1365 rfl rfl ?_
        refine mv_iconst (v := 1) dL_law_1366 ic_1 ?_
        refine mv_iadd dL_law_1367 ?_
        refine mv_scr hX hbl hbA dL_law_1368 ?_
        refine mv_cVwi (As := [.int (xs (Int32.toNatClampNeg (x3 + (1 : Int32))))]) (st := []) cal_X5_status ins_X5_status ml_L_179 rfl (by decide) rfl rfl (by decide) rfl (Nat.le_of_ble_eq_true rfl) dL_law_1369 (fun r s h => co_X5_status h) (fun r161 s162 => ?_)
        refine mv_aload_n 2 dL_law_1372 rfl rfl ?_
        refine mv_aload_n 0 dL_law_1373 rfl rfl ?_
        refine mv_iload_n 3 dL_law_1374 rfl rfl ?_
        refine mv_iconst (v := 1) dL_law_1375 ic_1 ?_
        refine mv_iadd dL_law_1376 ?_
        refine mv_scr hX hbl hbA dL_law_1377 ?_
        refine mv_cVwi (As := [.int (xs (Int32.toNatClampNeg (x3 + (1 : Int32))))]) (st := [.int r161]) cal_X6_status ins_X6_status ml_L_182 rfl (by decide) rfl rfl (by decide) rfl (Nat.le_of_ble_eq_true rfl) dL_law_1378 (fun r s h => co_X6_status h) (fun r163 s164 => ?_)
        refine mv_icmp_eq 1386 dL_law_1381 (by decide) ?_ ?_
        · exact vL_law_1386 hX hbl hbA hQ (fun s0 x3 => ih s0 x3) s164 x3
        · refine mv_iconst (v := 0) dL_law_1384 ic_0 ?_
          exact mv_lawret hQ rfl dL_law_1385
      refine mv_tsout 1386 (by have z0 := mt_ne (z := 0) n0 (by decide); have z1 := mt_ne (z := 1) n1 (by decide); have z2 := mt_ne (z := 2) n2 (by decide); have z3 := mt_ne (z := 3) n3 (by decide); have z4 := mt_ne (z := 4) n4 (by decide); have z5 := mt_ne (z := 5) n5 (by decide); have z6 := mt_ne (z := 6) n6 (by decide); have z7 := mt_ne (z := 7) n7 (by decide); have z8 := mt_ne (z := 8) n8 (by decide); have z9 := mt_ne (z := 9) n9 (by decide); have z10 := mt_ne (z := 10) n10 (by decide); have z11 := mt_ne (z := 11) n11 (by decide); have z12 := mt_ne (z := 12) n12 (by decide); have z13 := mt_ne (z := 13) n13 (by decide); have z14 := mt_ne (z := 14) n14 (by decide); have z15 := mt_ne (z := 15) n15 (by decide); have z16 := mt_ne (z := 16) n16 (by decide); have z17 := mt_ne (z := 17) n17 (by decide); have z18 := mt_ne (z := 18) n18 (by decide); have z19 := mt_ne (z := 19) n19 (by decide); have z20 := mt_ne (z := 20) n20 (by decide); have z21 := mt_ne (z := 21) n21 (by decide); have z22 := mt_ne (z := 22) n22 (by decide); have z23 := mt_ne (z := 23) n23 (by decide); have z24 := mt_ne (z := 24) n24 (by decide); have z25 := mt_ne (z := 25) n25 (by decide); have z26 := mt_ne (z := 26) n26 (by decide); have z27 := mt_ne (z := 27) n27 (by decide); have z28 := mt_ne (z := 28) n28 (by decide); have z29 := mt_ne (z := 29) n29 (by decide); have z30 := mt_ne (z := 30) n30 (by decide); have z31 := mt_ne (z := 31) n31 (by decide); have z32 := mt_ne (z := 32) n32 (by decide); have z33 := mt_ne (z := 33) n33 (by decide); have z34 := mt_ne (z := 34) n34 (by decide); have z35 := mt_ne (z := 35) n35 (by decide); have z36 := mt_ne (z := 36) n36 (by decide); have z37 := mt_ne (z := 37) n37 (by decide); have z38 := mt_ne (z := 38) n38 (by decide); have z39 := mt_ne (z := 39) n39 (by decide); have z40 := mt_ne (z := 40) n40 (by decide); omega) dL_law_33 (by decide) ?_
      exact vL_law_1386 hX hbl hbA hQ (fun s0 x3 => ih s0 x3) σ x3
