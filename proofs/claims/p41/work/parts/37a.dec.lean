theorem dL_law_17 : decode cL_law 17 = .ok (.newarray .long, 2) := by decide +kernel
theorem dL_law_40 : decode cL_law 40 = .ok (.tableswitch 1564 0 40 #[180, 253, 278, 303, 328, 353, 393, 442, 455, 492, 505, 530, 555, 568, 593, 618, 643, 680, 717, 754, 815, 876, 901, 938, 963, 988, 1049, 1110, 1135, 1160, 1229, 1254, 1267, 1304, 1377, 1426, 1463, 1488, 1513, 1526, 1539], 180) := by decide +kernel
theorem DL_law_0 : dAre cL_law [(0, .new 8, 3), (3, .dup, 1), (4, .invokespecial 15, 3), (7, .astore_n 1, 1), (8, .new 16, 3), (11, .dup, 1), (12, .invokespecial 18, 3), (15, .astore_n 2, 1), (16, .iconst 1, 1), (19, .astore_n 3, 1), (20, .iconst 0, 1), (21, .istore 4, 2), (23, .iload 4, 2), (25, .aload_n 0, 1), (26, .arraylength, 1), (27, .bipush 6, 2)] := dAre0 (by decide +kernel)
theorem dL_law_0 : decode cL_law 0 = .ok (.new 8, 3) := DL_law_0.1
theorem dL_law_3 : decode cL_law 3 = .ok (.dup, 1) := DL_law_0.2.1
theorem dL_law_4 : decode cL_law 4 = .ok (.invokespecial 15, 3) := DL_law_0.2.2.1
theorem dL_law_7 : decode cL_law 7 = .ok (.astore_n 1, 1) := DL_law_0.2.2.2.1
theorem dL_law_8 : decode cL_law 8 = .ok (.new 16, 3) := DL_law_0.2.2.2.2.1
theorem dL_law_11 : decode cL_law 11 = .ok (.dup, 1) := DL_law_0.2.2.2.2.2.1
theorem dL_law_12 : decode cL_law 12 = .ok (.invokespecial 18, 3) := DL_law_0.2.2.2.2.2.2.1
theorem dL_law_15 : decode cL_law 15 = .ok (.astore_n 2, 1) := DL_law_0.2.2.2.2.2.2.2.1
theorem dL_law_16 : decode cL_law 16 = .ok (.iconst 1, 1) := DL_law_0.2.2.2.2.2.2.2.2.1
theorem dL_law_19 : decode cL_law 19 = .ok (.astore_n 3, 1) := DL_law_0.2.2.2.2.2.2.2.2.2.1
theorem dL_law_20 : decode cL_law 20 = .ok (.iconst 0, 1) := DL_law_0.2.2.2.2.2.2.2.2.2.2.1
theorem dL_law_21 : decode cL_law 21 = .ok (.istore 4, 2) := DL_law_0.2.2.2.2.2.2.2.2.2.2.2.1
theorem dL_law_23 : decode cL_law 23 = .ok (.iload 4, 2) := DL_law_0.2.2.2.2.2.2.2.2.2.2.2.2.1
theorem dL_law_25 : decode cL_law 25 = .ok (.aload_n 0, 1) := DL_law_0.2.2.2.2.2.2.2.2.2.2.2.2.2.1
theorem dL_law_26 : decode cL_law 26 = .ok (.arraylength, 1) := DL_law_0.2.2.2.2.2.2.2.2.2.2.2.2.2.2.1
theorem dL_law_27 : decode cL_law 27 = .ok (.bipush 6, 2) := DL_law_0.2.2.2.2.2.2.2.2.2.2.2.2.2.2.2.1
theorem DL_law_29 : dAre cL_law [(29, .isub, 1), (30, .if_icmp .gt 1580, 3), (33, .aload_n 0, 1), (34, .iload 4, 2), (36, .iaload, 1), (37, .bipush 63, 2), (39, .iand, 1), (220, .aload_n 1, 1), (221, .aload_n 0, 1), (222, .iload 4, 2), (224, .iconst 1, 1), (225, .iadd, 1), (226, .iaload, 1), (227, .aload_n 0, 1), (228, .iload 4, 2), (230, .iconst 2, 1)] := dAre0 (by decide +kernel)
theorem dL_law_29 : decode cL_law 29 = .ok (.isub, 1) := DL_law_29.1
theorem dL_law_30 : decode cL_law 30 = .ok (.if_icmp .gt 1580, 3) := DL_law_29.2.1
theorem dL_law_33 : decode cL_law 33 = .ok (.aload_n 0, 1) := DL_law_29.2.2.1
theorem dL_law_34 : decode cL_law 34 = .ok (.iload 4, 2) := DL_law_29.2.2.2.1
theorem dL_law_36 : decode cL_law 36 = .ok (.iaload, 1) := DL_law_29.2.2.2.2.1
theorem dL_law_37 : decode cL_law 37 = .ok (.bipush 63, 2) := DL_law_29.2.2.2.2.2.1
theorem dL_law_39 : decode cL_law 39 = .ok (.iand, 1) := DL_law_29.2.2.2.2.2.2.1
theorem dL_law_220 : decode cL_law 220 = .ok (.aload_n 1, 1) := DL_law_29.2.2.2.2.2.2.2.1
theorem dL_law_221 : decode cL_law 221 = .ok (.aload_n 0, 1) := DL_law_29.2.2.2.2.2.2.2.2.1
theorem dL_law_222 : decode cL_law 222 = .ok (.iload 4, 2) := DL_law_29.2.2.2.2.2.2.2.2.2.1
theorem dL_law_224 : decode cL_law 224 = .ok (.iconst 1, 1) := DL_law_29.2.2.2.2.2.2.2.2.2.2.1
theorem dL_law_225 : decode cL_law 225 = .ok (.iadd, 1) := DL_law_29.2.2.2.2.2.2.2.2.2.2.2.1
theorem dL_law_226 : decode cL_law 226 = .ok (.iaload, 1) := DL_law_29.2.2.2.2.2.2.2.2.2.2.2.2.1
theorem dL_law_227 : decode cL_law 227 = .ok (.aload_n 0, 1) := DL_law_29.2.2.2.2.2.2.2.2.2.2.2.2.2.1
theorem dL_law_228 : decode cL_law 228 = .ok (.iload 4, 2) := DL_law_29.2.2.2.2.2.2.2.2.2.2.2.2.2.2.1
theorem dL_law_230 : decode cL_law 230 = .ok (.iconst 2, 1) := DL_law_29.2.2.2.2.2.2.2.2.2.2.2.2.2.2.2.1
theorem DL_law_231 : dAre cL_law [(231, .iadd, 1), (232, .iaload, 1), (233, .aload_n 0, 1), (234, .iload 4, 2), (236, .iconst 3, 1), (237, .iadd, 1), (238, .iaload, 1), (239, .aload_n 0, 1), (240, .iload 4, 2), (242, .iconst 4, 1), (243, .iadd, 1), (244, .iaload, 1), (245, .aload_n 0, 1), (246, .iload 4, 2), (248, .iconst 5, 1), (249, .iadd, 1)] := dAre0 (by decide +kernel)
theorem dL_law_231 : decode cL_law 231 = .ok (.iadd, 1) := DL_law_231.1
theorem dL_law_232 : decode cL_law 232 = .ok (.iaload, 1) := DL_law_231.2.1
theorem dL_law_233 : decode cL_law 233 = .ok (.aload_n 0, 1) := DL_law_231.2.2.1
theorem dL_law_234 : decode cL_law 234 = .ok (.iload 4, 2) := DL_law_231.2.2.2.1
theorem dL_law_236 : decode cL_law 236 = .ok (.iconst 3, 1) := DL_law_231.2.2.2.2.1
theorem dL_law_237 : decode cL_law 237 = .ok (.iadd, 1) := DL_law_231.2.2.2.2.2.1
theorem dL_law_238 : decode cL_law 238 = .ok (.iaload, 1) := DL_law_231.2.2.2.2.2.2.1
theorem dL_law_239 : decode cL_law 239 = .ok (.aload_n 0, 1) := DL_law_231.2.2.2.2.2.2.2.1
theorem dL_law_240 : decode cL_law 240 = .ok (.iload 4, 2) := DL_law_231.2.2.2.2.2.2.2.2.1
theorem dL_law_242 : decode cL_law 242 = .ok (.iconst 4, 1) := DL_law_231.2.2.2.2.2.2.2.2.2.1
theorem dL_law_243 : decode cL_law 243 = .ok (.iadd, 1) := DL_law_231.2.2.2.2.2.2.2.2.2.2.1
theorem dL_law_244 : decode cL_law 244 = .ok (.iaload, 1) := DL_law_231.2.2.2.2.2.2.2.2.2.2.2.1
theorem dL_law_245 : decode cL_law 245 = .ok (.aload_n 0, 1) := DL_law_231.2.2.2.2.2.2.2.2.2.2.2.2.1
theorem dL_law_246 : decode cL_law 246 = .ok (.iload 4, 2) := DL_law_231.2.2.2.2.2.2.2.2.2.2.2.2.2.1
theorem dL_law_248 : decode cL_law 248 = .ok (.iconst 5, 1) := DL_law_231.2.2.2.2.2.2.2.2.2.2.2.2.2.2.1
theorem dL_law_249 : decode cL_law 249 = .ok (.iadd, 1) := DL_law_231.2.2.2.2.2.2.2.2.2.2.2.2.2.2.2.1
theorem DL_law_250 : dAre cL_law [(250, .iaload, 1), (251, .invokevirtual 19, 3), (254, .pop, 1), (255, .aload_n 2, 1), (256, .aload_n 0, 1), (257, .iload 4, 2), (259, .iconst 1, 1), (260, .iadd, 1), (261, .iaload, 1), (262, .aload_n 0, 1), (263, .iload 4, 2), (265, .iconst 2, 1), (266, .iadd, 1), (267, .iaload, 1), (268, .aload_n 0, 1), (269, .iload 4, 2)] := dAre0 (by decide +kernel)
theorem dL_law_250 : decode cL_law 250 = .ok (.iaload, 1) := DL_law_250.1
theorem dL_law_251 : decode cL_law 251 = .ok (.invokevirtual 19, 3) := DL_law_250.2.1
theorem dL_law_254 : decode cL_law 254 = .ok (.pop, 1) := DL_law_250.2.2.1
theorem dL_law_255 : decode cL_law 255 = .ok (.aload_n 2, 1) := DL_law_250.2.2.2.1
theorem dL_law_256 : decode cL_law 256 = .ok (.aload_n 0, 1) := DL_law_250.2.2.2.2.1
theorem dL_law_257 : decode cL_law 257 = .ok (.iload 4, 2) := DL_law_250.2.2.2.2.2.1
theorem dL_law_259 : decode cL_law 259 = .ok (.iconst 1, 1) := DL_law_250.2.2.2.2.2.2.1
theorem dL_law_260 : decode cL_law 260 = .ok (.iadd, 1) := DL_law_250.2.2.2.2.2.2.2.1
theorem dL_law_261 : decode cL_law 261 = .ok (.iaload, 1) := DL_law_250.2.2.2.2.2.2.2.2.1
theorem dL_law_262 : decode cL_law 262 = .ok (.aload_n 0, 1) := DL_law_250.2.2.2.2.2.2.2.2.2.1
theorem dL_law_263 : decode cL_law 263 = .ok (.iload 4, 2) := DL_law_250.2.2.2.2.2.2.2.2.2.2.1
theorem dL_law_265 : decode cL_law 265 = .ok (.iconst 2, 1) := DL_law_250.2.2.2.2.2.2.2.2.2.2.2.1
theorem dL_law_266 : decode cL_law 266 = .ok (.iadd, 1) := DL_law_250.2.2.2.2.2.2.2.2.2.2.2.2.1
theorem dL_law_267 : decode cL_law 267 = .ok (.iaload, 1) := DL_law_250.2.2.2.2.2.2.2.2.2.2.2.2.2.1
theorem dL_law_268 : decode cL_law 268 = .ok (.aload_n 0, 1) := DL_law_250.2.2.2.2.2.2.2.2.2.2.2.2.2.2.1
theorem dL_law_269 : decode cL_law 269 = .ok (.iload 4, 2) := DL_law_250.2.2.2.2.2.2.2.2.2.2.2.2.2.2.2.1
theorem DL_law_271 : dAre cL_law [(271, .iconst 3, 1), (272, .iadd, 1), (273, .iaload, 1), (274, .aload_n 0, 1), (275, .iload 4, 2), (277, .iconst 4, 1), (278, .iadd, 1), (279, .iaload, 1), (280, .aload_n 0, 1), (281, .iload 4, 2), (283, .iconst 5, 1), (284, .iadd, 1), (285, .iaload, 1), (286, .invokevirtual 23, 3), (289, .pop, 1), (290, .goto 1314, 3)] := dAre0 (by decide +kernel)
theorem dL_law_271 : decode cL_law 271 = .ok (.iconst 3, 1) := DL_law_271.1
theorem dL_law_272 : decode cL_law 272 = .ok (.iadd, 1) := DL_law_271.2.1
theorem dL_law_273 : decode cL_law 273 = .ok (.iaload, 1) := DL_law_271.2.2.1
theorem dL_law_274 : decode cL_law 274 = .ok (.aload_n 0, 1) := DL_law_271.2.2.2.1
theorem dL_law_275 : decode cL_law 275 = .ok (.iload 4, 2) := DL_law_271.2.2.2.2.1
theorem dL_law_277 : decode cL_law 277 = .ok (.iconst 4, 1) := DL_law_271.2.2.2.2.2.1
theorem dL_law_278 : decode cL_law 278 = .ok (.iadd, 1) := DL_law_271.2.2.2.2.2.2.1
theorem dL_law_279 : decode cL_law 279 = .ok (.iaload, 1) := DL_law_271.2.2.2.2.2.2.2.1
theorem dL_law_280 : decode cL_law 280 = .ok (.aload_n 0, 1) := DL_law_271.2.2.2.2.2.2.2.2.1
theorem dL_law_281 : decode cL_law 281 = .ok (.iload 4, 2) := DL_law_271.2.2.2.2.2.2.2.2.2.1
theorem dL_law_283 : decode cL_law 283 = .ok (.iconst 5, 1) := DL_law_271.2.2.2.2.2.2.2.2.2.2.1
theorem dL_law_284 : decode cL_law 284 = .ok (.iadd, 1) := DL_law_271.2.2.2.2.2.2.2.2.2.2.2.1
theorem dL_law_285 : decode cL_law 285 = .ok (.iaload, 1) := DL_law_271.2.2.2.2.2.2.2.2.2.2.2.2.1
theorem dL_law_286 : decode cL_law 286 = .ok (.invokevirtual 23, 3) := DL_law_271.2.2.2.2.2.2.2.2.2.2.2.2.2.1
theorem dL_law_289 : decode cL_law 289 = .ok (.pop, 1) := DL_law_271.2.2.2.2.2.2.2.2.2.2.2.2.2.2.1
theorem dL_law_290 : decode cL_law 290 = .ok (.goto 1314, 3) := DL_law_271.2.2.2.2.2.2.2.2.2.2.2.2.2.2.2.1
theorem DL_law_293 : dAre cL_law [(293, .aload_n 1, 1), (294, .aload_n 0, 1), (295, .iload 4, 2), (297, .iconst 1, 1), (298, .iadd, 1), (299, .iaload, 1), (300, .invokevirtual 24, 3), (303, .pop, 1), (304, .aload_n 2, 1), (305, .aload_n 0, 1), (306, .iload 4, 2), (308, .iconst 1, 1), (309, .iadd, 1), (310, .iaload, 1), (311, .invokevirtual 28, 3), (314, .pop, 1)] := dAre0 (by decide +kernel)
theorem dL_law_293 : decode cL_law 293 = .ok (.aload_n 1, 1) := DL_law_293.1
theorem dL_law_294 : decode cL_law 294 = .ok (.aload_n 0, 1) := DL_law_293.2.1
theorem dL_law_295 : decode cL_law 295 = .ok (.iload 4, 2) := DL_law_293.2.2.1
theorem dL_law_297 : decode cL_law 297 = .ok (.iconst 1, 1) := DL_law_293.2.2.2.1
theorem dL_law_298 : decode cL_law 298 = .ok (.iadd, 1) := DL_law_293.2.2.2.2.1
theorem dL_law_299 : decode cL_law 299 = .ok (.iaload, 1) := DL_law_293.2.2.2.2.2.1
theorem dL_law_300 : decode cL_law 300 = .ok (.invokevirtual 24, 3) := DL_law_293.2.2.2.2.2.2.1
theorem dL_law_303 : decode cL_law 303 = .ok (.pop, 1) := DL_law_293.2.2.2.2.2.2.2.1
theorem dL_law_304 : decode cL_law 304 = .ok (.aload_n 2, 1) := DL_law_293.2.2.2.2.2.2.2.2.1
theorem dL_law_305 : decode cL_law 305 = .ok (.aload_n 0, 1) := DL_law_293.2.2.2.2.2.2.2.2.2.1
theorem dL_law_306 : decode cL_law 306 = .ok (.iload 4, 2) := DL_law_293.2.2.2.2.2.2.2.2.2.2.1
theorem dL_law_308 : decode cL_law 308 = .ok (.iconst 1, 1) := DL_law_293.2.2.2.2.2.2.2.2.2.2.2.1
theorem dL_law_309 : decode cL_law 309 = .ok (.iadd, 1) := DL_law_293.2.2.2.2.2.2.2.2.2.2.2.2.1
theorem dL_law_310 : decode cL_law 310 = .ok (.iaload, 1) := DL_law_293.2.2.2.2.2.2.2.2.2.2.2.2.2.1
theorem dL_law_311 : decode cL_law 311 = .ok (.invokevirtual 28, 3) := DL_law_293.2.2.2.2.2.2.2.2.2.2.2.2.2.2.1
theorem dL_law_314 : decode cL_law 314 = .ok (.pop, 1) := DL_law_293.2.2.2.2.2.2.2.2.2.2.2.2.2.2.2.1
theorem DL_law_315 : dAre cL_law [(315, .goto 1289, 3), (318, .aload_n 1, 1), (319, .aload_n 0, 1), (320, .iload 4, 2), (322, .iconst 1, 1), (323, .iadd, 1), (324, .iaload, 1), (325, .invokevirtual 29, 3), (328, .pop, 1), (329, .aload_n 2, 1), (330, .aload_n 0, 1), (331, .iload 4, 2), (333, .iconst 1, 1), (334, .iadd, 1), (335, .iaload, 1), (336, .invokevirtual 33, 3)] := dAre0 (by decide +kernel)
theorem dL_law_315 : decode cL_law 315 = .ok (.goto 1289, 3) := DL_law_315.1
theorem dL_law_318 : decode cL_law 318 = .ok (.aload_n 1, 1) := DL_law_315.2.1
theorem dL_law_319 : decode cL_law 319 = .ok (.aload_n 0, 1) := DL_law_315.2.2.1
theorem dL_law_320 : decode cL_law 320 = .ok (.iload 4, 2) := DL_law_315.2.2.2.1
theorem dL_law_322 : decode cL_law 322 = .ok (.iconst 1, 1) := DL_law_315.2.2.2.2.1
theorem dL_law_323 : decode cL_law 323 = .ok (.iadd, 1) := DL_law_315.2.2.2.2.2.1
theorem dL_law_324 : decode cL_law 324 = .ok (.iaload, 1) := DL_law_315.2.2.2.2.2.2.1
theorem dL_law_325 : decode cL_law 325 = .ok (.invokevirtual 29, 3) := DL_law_315.2.2.2.2.2.2.2.1
theorem dL_law_328 : decode cL_law 328 = .ok (.pop, 1) := DL_law_315.2.2.2.2.2.2.2.2.1
theorem dL_law_329 : decode cL_law 329 = .ok (.aload_n 2, 1) := DL_law_315.2.2.2.2.2.2.2.2.2.1
theorem dL_law_330 : decode cL_law 330 = .ok (.aload_n 0, 1) := DL_law_315.2.2.2.2.2.2.2.2.2.2.1
theorem dL_law_331 : decode cL_law 331 = .ok (.iload 4, 2) := DL_law_315.2.2.2.2.2.2.2.2.2.2.2.1
theorem dL_law_333 : decode cL_law 333 = .ok (.iconst 1, 1) := DL_law_315.2.2.2.2.2.2.2.2.2.2.2.2.1
theorem dL_law_334 : decode cL_law 334 = .ok (.iadd, 1) := DL_law_315.2.2.2.2.2.2.2.2.2.2.2.2.2.1
theorem dL_law_335 : decode cL_law 335 = .ok (.iaload, 1) := DL_law_315.2.2.2.2.2.2.2.2.2.2.2.2.2.2.1
theorem dL_law_336 : decode cL_law 336 = .ok (.invokevirtual 33, 3) := DL_law_315.2.2.2.2.2.2.2.2.2.2.2.2.2.2.2.1
theorem DL_law_339 : dAre cL_law [(339, .pop, 1), (340, .goto 1264, 3), (343, .aload_n 1, 1), (344, .aload_n 0, 1), (345, .iload 4, 2), (347, .iconst 1, 1), (348, .iadd, 1), (349, .iaload, 1), (350, .invokevirtual 34, 3), (353, .pop, 1), (354, .aload_n 2, 1), (355, .aload_n 0, 1), (356, .iload 4, 2), (358, .iconst 1, 1), (359, .iadd, 1), (360, .iaload, 1)] := dAre0 (by decide +kernel)
theorem dL_law_339 : decode cL_law 339 = .ok (.pop, 1) := DL_law_339.1
theorem dL_law_340 : decode cL_law 340 = .ok (.goto 1264, 3) := DL_law_339.2.1
theorem dL_law_343 : decode cL_law 343 = .ok (.aload_n 1, 1) := DL_law_339.2.2.1
theorem dL_law_344 : decode cL_law 344 = .ok (.aload_n 0, 1) := DL_law_339.2.2.2.1
theorem dL_law_345 : decode cL_law 345 = .ok (.iload 4, 2) := DL_law_339.2.2.2.2.1
theorem dL_law_347 : decode cL_law 347 = .ok (.iconst 1, 1) := DL_law_339.2.2.2.2.2.1
theorem dL_law_348 : decode cL_law 348 = .ok (.iadd, 1) := DL_law_339.2.2.2.2.2.2.1
theorem dL_law_349 : decode cL_law 349 = .ok (.iaload, 1) := DL_law_339.2.2.2.2.2.2.2.1
theorem dL_law_350 : decode cL_law 350 = .ok (.invokevirtual 34, 3) := DL_law_339.2.2.2.2.2.2.2.2.1
theorem dL_law_353 : decode cL_law 353 = .ok (.pop, 1) := DL_law_339.2.2.2.2.2.2.2.2.2.1
theorem dL_law_354 : decode cL_law 354 = .ok (.aload_n 2, 1) := DL_law_339.2.2.2.2.2.2.2.2.2.2.1
theorem dL_law_355 : decode cL_law 355 = .ok (.aload_n 0, 1) := DL_law_339.2.2.2.2.2.2.2.2.2.2.2.1
theorem dL_law_356 : decode cL_law 356 = .ok (.iload 4, 2) := DL_law_339.2.2.2.2.2.2.2.2.2.2.2.2.1
theorem dL_law_358 : decode cL_law 358 = .ok (.iconst 1, 1) := DL_law_339.2.2.2.2.2.2.2.2.2.2.2.2.2.1
theorem dL_law_359 : decode cL_law 359 = .ok (.iadd, 1) := DL_law_339.2.2.2.2.2.2.2.2.2.2.2.2.2.2.1
theorem dL_law_360 : decode cL_law 360 = .ok (.iaload, 1) := DL_law_339.2.2.2.2.2.2.2.2.2.2.2.2.2.2.2.1
theorem DL_law_361 : dAre cL_law [(361, .invokevirtual 37, 3), (364, .pop, 1), (365, .goto 1239, 3), (368, .aload_n 1, 1), (369, .aload_n 0, 1), (370, .iload 4, 2), (372, .iconst 1, 1), (373, .iadd, 1), (374, .iaload, 1), (375, .invokevirtual 38, 3), (378, .pop, 1), (379, .aload_n 2, 1), (380, .aload_n 0, 1), (381, .iload 4, 2), (383, .iconst 1, 1), (384, .iadd, 1)] := dAre0 (by decide +kernel)
theorem dL_law_361 : decode cL_law 361 = .ok (.invokevirtual 37, 3) := DL_law_361.1
theorem dL_law_364 : decode cL_law 364 = .ok (.pop, 1) := DL_law_361.2.1
theorem dL_law_365 : decode cL_law 365 = .ok (.goto 1239, 3) := DL_law_361.2.2.1
theorem dL_law_368 : decode cL_law 368 = .ok (.aload_n 1, 1) := DL_law_361.2.2.2.1
theorem dL_law_369 : decode cL_law 369 = .ok (.aload_n 0, 1) := DL_law_361.2.2.2.2.1
theorem dL_law_370 : decode cL_law 370 = .ok (.iload 4, 2) := DL_law_361.2.2.2.2.2.1
theorem dL_law_372 : decode cL_law 372 = .ok (.iconst 1, 1) := DL_law_361.2.2.2.2.2.2.1
theorem dL_law_373 : decode cL_law 373 = .ok (.iadd, 1) := DL_law_361.2.2.2.2.2.2.2.1
theorem dL_law_374 : decode cL_law 374 = .ok (.iaload, 1) := DL_law_361.2.2.2.2.2.2.2.2.1
theorem dL_law_375 : decode cL_law 375 = .ok (.invokevirtual 38, 3) := DL_law_361.2.2.2.2.2.2.2.2.2.1
theorem dL_law_378 : decode cL_law 378 = .ok (.pop, 1) := DL_law_361.2.2.2.2.2.2.2.2.2.2.1
theorem dL_law_379 : decode cL_law 379 = .ok (.aload_n 2, 1) := DL_law_361.2.2.2.2.2.2.2.2.2.2.2.1
theorem dL_law_380 : decode cL_law 380 = .ok (.aload_n 0, 1) := DL_law_361.2.2.2.2.2.2.2.2.2.2.2.2.1
theorem dL_law_381 : decode cL_law 381 = .ok (.iload 4, 2) := DL_law_361.2.2.2.2.2.2.2.2.2.2.2.2.2.1
theorem dL_law_383 : decode cL_law 383 = .ok (.iconst 1, 1) := DL_law_361.2.2.2.2.2.2.2.2.2.2.2.2.2.2.1
theorem dL_law_384 : decode cL_law 384 = .ok (.iadd, 1) := DL_law_361.2.2.2.2.2.2.2.2.2.2.2.2.2.2.2.1
theorem DL_law_385 : dAre cL_law [(385, .iaload, 1), (386, .invokevirtual 41, 3), (389, .pop, 1), (390, .goto 1214, 3), (393, .aload_n 1, 1), (394, .aload_n 0, 1), (395, .iload 4, 2), (397, .iconst 1, 1), (398, .iadd, 1), (399, .iaload, 1), (400, .aload_n 0, 1), (401, .iload 4, 2), (403, .iconst 2, 1), (404, .iadd, 1), (405, .iaload, 1), (406, .aload_n 3, 1)] := dAre0 (by decide +kernel)
theorem dL_law_385 : decode cL_law 385 = .ok (.iaload, 1) := DL_law_385.1
theorem dL_law_386 : decode cL_law 386 = .ok (.invokevirtual 41, 3) := DL_law_385.2.1
theorem dL_law_389 : decode cL_law 389 = .ok (.pop, 1) := DL_law_385.2.2.1
theorem dL_law_390 : decode cL_law 390 = .ok (.goto 1214, 3) := DL_law_385.2.2.2.1
theorem dL_law_393 : decode cL_law 393 = .ok (.aload_n 1, 1) := DL_law_385.2.2.2.2.1
theorem dL_law_394 : decode cL_law 394 = .ok (.aload_n 0, 1) := DL_law_385.2.2.2.2.2.1
theorem dL_law_395 : decode cL_law 395 = .ok (.iload 4, 2) := DL_law_385.2.2.2.2.2.2.1
theorem dL_law_397 : decode cL_law 397 = .ok (.iconst 1, 1) := DL_law_385.2.2.2.2.2.2.2.1
theorem dL_law_398 : decode cL_law 398 = .ok (.iadd, 1) := DL_law_385.2.2.2.2.2.2.2.2.1
theorem dL_law_399 : decode cL_law 399 = .ok (.iaload, 1) := DL_law_385.2.2.2.2.2.2.2.2.2.1
theorem dL_law_400 : decode cL_law 400 = .ok (.aload_n 0, 1) := DL_law_385.2.2.2.2.2.2.2.2.2.2.1
theorem dL_law_401 : decode cL_law 401 = .ok (.iload 4, 2) := DL_law_385.2.2.2.2.2.2.2.2.2.2.2.1
theorem dL_law_403 : decode cL_law 403 = .ok (.iconst 2, 1) := DL_law_385.2.2.2.2.2.2.2.2.2.2.2.2.1
theorem dL_law_404 : decode cL_law 404 = .ok (.iadd, 1) := DL_law_385.2.2.2.2.2.2.2.2.2.2.2.2.2.1
theorem dL_law_405 : decode cL_law 405 = .ok (.iaload, 1) := DL_law_385.2.2.2.2.2.2.2.2.2.2.2.2.2.2.1
theorem dL_law_406 : decode cL_law 406 = .ok (.aload_n 3, 1) := DL_law_385.2.2.2.2.2.2.2.2.2.2.2.2.2.2.2.1
theorem DL_law_407 : dAre cL_law [(407, .invokestatic 42, 3), (410, .istore 5, 2), (412, .aload_n 2, 1), (413, .aload_n 0, 1), (414, .iload 4, 2), (416, .iconst 1, 1), (417, .iadd, 1), (418, .iaload, 1), (419, .aload_n 0, 1), (420, .iload 4, 2), (422, .iconst 2, 1), (423, .iadd, 1), (424, .iaload, 1), (425, .invokevirtual 47, 3), (428, .istore 6, 2), (430, .goto 1174, 3)] := dAre0 (by decide +kernel)
theorem dL_law_407 : decode cL_law 407 = .ok (.invokestatic 42, 3) := DL_law_407.1
theorem dL_law_410 : decode cL_law 410 = .ok (.istore 5, 2) := DL_law_407.2.1
theorem dL_law_412 : decode cL_law 412 = .ok (.aload_n 2, 1) := DL_law_407.2.2.1
theorem dL_law_413 : decode cL_law 413 = .ok (.aload_n 0, 1) := DL_law_407.2.2.2.1
theorem dL_law_414 : decode cL_law 414 = .ok (.iload 4, 2) := DL_law_407.2.2.2.2.1
theorem dL_law_416 : decode cL_law 416 = .ok (.iconst 1, 1) := DL_law_407.2.2.2.2.2.1
theorem dL_law_417 : decode cL_law 417 = .ok (.iadd, 1) := DL_law_407.2.2.2.2.2.2.1
theorem dL_law_418 : decode cL_law 418 = .ok (.iaload, 1) := DL_law_407.2.2.2.2.2.2.2.1
theorem dL_law_419 : decode cL_law 419 = .ok (.aload_n 0, 1) := DL_law_407.2.2.2.2.2.2.2.2.1
theorem dL_law_420 : decode cL_law 420 = .ok (.iload 4, 2) := DL_law_407.2.2.2.2.2.2.2.2.2.1
theorem dL_law_422 : decode cL_law 422 = .ok (.iconst 2, 1) := DL_law_407.2.2.2.2.2.2.2.2.2.2.1
theorem dL_law_423 : decode cL_law 423 = .ok (.iadd, 1) := DL_law_407.2.2.2.2.2.2.2.2.2.2.2.1
theorem dL_law_424 : decode cL_law 424 = .ok (.iaload, 1) := DL_law_407.2.2.2.2.2.2.2.2.2.2.2.2.1
theorem dL_law_425 : decode cL_law 425 = .ok (.invokevirtual 47, 3) := DL_law_407.2.2.2.2.2.2.2.2.2.2.2.2.2.1
theorem dL_law_428 : decode cL_law 428 = .ok (.istore 6, 2) := DL_law_407.2.2.2.2.2.2.2.2.2.2.2.2.2.2.1
theorem dL_law_430 : decode cL_law 430 = .ok (.goto 1174, 3) := DL_law_407.2.2.2.2.2.2.2.2.2.2.2.2.2.2.2.1
theorem DL_law_433 : dAre cL_law [(433, .aload_n 1, 1), (434, .aload_n 0, 1), (435, .iload 4, 2), (437, .iconst 1, 1), (438, .iadd, 1), (439, .iaload, 1), (440, .aload_n 0, 1), (441, .iload 4, 2), (443, .iconst 2, 1), (444, .iadd, 1), (445, .iaload, 1), (446, .aload_n 0, 1), (447, .iload 4, 2), (449, .iconst 3, 1), (450, .iadd, 1), (451, .iaload, 1)] := dAre0 (by decide +kernel)
theorem dL_law_433 : decode cL_law 433 = .ok (.aload_n 1, 1) := DL_law_433.1
theorem dL_law_434 : decode cL_law 434 = .ok (.aload_n 0, 1) := DL_law_433.2.1
theorem dL_law_435 : decode cL_law 435 = .ok (.iload 4, 2) := DL_law_433.2.2.1
theorem dL_law_437 : decode cL_law 437 = .ok (.iconst 1, 1) := DL_law_433.2.2.2.1
theorem dL_law_438 : decode cL_law 438 = .ok (.iadd, 1) := DL_law_433.2.2.2.2.1
theorem dL_law_439 : decode cL_law 439 = .ok (.iaload, 1) := DL_law_433.2.2.2.2.2.1
theorem dL_law_440 : decode cL_law 440 = .ok (.aload_n 0, 1) := DL_law_433.2.2.2.2.2.2.1
theorem dL_law_441 : decode cL_law 441 = .ok (.iload 4, 2) := DL_law_433.2.2.2.2.2.2.2.1
theorem dL_law_443 : decode cL_law 443 = .ok (.iconst 2, 1) := DL_law_433.2.2.2.2.2.2.2.2.1
theorem dL_law_444 : decode cL_law 444 = .ok (.iadd, 1) := DL_law_433.2.2.2.2.2.2.2.2.2.1
theorem dL_law_445 : decode cL_law 445 = .ok (.iaload, 1) := DL_law_433.2.2.2.2.2.2.2.2.2.2.1
theorem dL_law_446 : decode cL_law 446 = .ok (.aload_n 0, 1) := DL_law_433.2.2.2.2.2.2.2.2.2.2.2.1
theorem dL_law_447 : decode cL_law 447 = .ok (.iload 4, 2) := DL_law_433.2.2.2.2.2.2.2.2.2.2.2.2.1
theorem dL_law_449 : decode cL_law 449 = .ok (.iconst 3, 1) := DL_law_433.2.2.2.2.2.2.2.2.2.2.2.2.2.1
theorem dL_law_450 : decode cL_law 450 = .ok (.iadd, 1) := DL_law_433.2.2.2.2.2.2.2.2.2.2.2.2.2.2.1
theorem dL_law_451 : decode cL_law 451 = .ok (.iaload, 1) := DL_law_433.2.2.2.2.2.2.2.2.2.2.2.2.2.2.2.1
theorem DL_law_452 : dAre cL_law [(452, .invokevirtual 48, 3), (455, .pop, 1), (456, .aload_n 2, 1), (457, .aload_n 0, 1), (458, .iload 4, 2), (460, .iconst 1, 1), (461, .iadd, 1), (462, .iaload, 1), (463, .aload_n 0, 1), (464, .iload 4, 2), (466, .iconst 2, 1), (467, .iadd, 1), (468, .iaload, 1), (469, .aload_n 0, 1), (470, .iload 4, 2), (472, .iconst 3, 1)] := dAre0 (by decide +kernel)
theorem dL_law_452 : decode cL_law 452 = .ok (.invokevirtual 48, 3) := DL_law_452.1
theorem dL_law_455 : decode cL_law 455 = .ok (.pop, 1) := DL_law_452.2.1
theorem dL_law_456 : decode cL_law 456 = .ok (.aload_n 2, 1) := DL_law_452.2.2.1
theorem dL_law_457 : decode cL_law 457 = .ok (.aload_n 0, 1) := DL_law_452.2.2.2.1
theorem dL_law_458 : decode cL_law 458 = .ok (.iload 4, 2) := DL_law_452.2.2.2.2.1
theorem dL_law_460 : decode cL_law 460 = .ok (.iconst 1, 1) := DL_law_452.2.2.2.2.2.1
theorem dL_law_461 : decode cL_law 461 = .ok (.iadd, 1) := DL_law_452.2.2.2.2.2.2.1
theorem dL_law_462 : decode cL_law 462 = .ok (.iaload, 1) := DL_law_452.2.2.2.2.2.2.2.1
theorem dL_law_463 : decode cL_law 463 = .ok (.aload_n 0, 1) := DL_law_452.2.2.2.2.2.2.2.2.1
theorem dL_law_464 : decode cL_law 464 = .ok (.iload 4, 2) := DL_law_452.2.2.2.2.2.2.2.2.2.1
theorem dL_law_466 : decode cL_law 466 = .ok (.iconst 2, 1) := DL_law_452.2.2.2.2.2.2.2.2.2.2.1
theorem dL_law_467 : decode cL_law 467 = .ok (.iadd, 1) := DL_law_452.2.2.2.2.2.2.2.2.2.2.2.1
theorem dL_law_468 : decode cL_law 468 = .ok (.iaload, 1) := DL_law_452.2.2.2.2.2.2.2.2.2.2.2.2.1
theorem dL_law_469 : decode cL_law 469 = .ok (.aload_n 0, 1) := DL_law_452.2.2.2.2.2.2.2.2.2.2.2.2.2.1
theorem dL_law_470 : decode cL_law 470 = .ok (.iload 4, 2) := DL_law_452.2.2.2.2.2.2.2.2.2.2.2.2.2.2.1
theorem dL_law_472 : decode cL_law 472 = .ok (.iconst 3, 1) := DL_law_452.2.2.2.2.2.2.2.2.2.2.2.2.2.2.2.1
theorem DL_law_473 : dAre cL_law [(473, .iadd, 1), (474, .iaload, 1), (475, .invokevirtual 52, 3), (478, .pop, 1), (479, .goto 1125, 3), (482, .aload_n 1, 1), (483, .invokevirtual 53, 3), (486, .pop, 1), (487, .aload_n 2, 1), (488, .invokevirtual 57, 3), (491, .pop, 1), (492, .goto 1112, 3), (495, .aload_n 1, 1), (496, .aload_n 0, 1), (497, .iload 4, 2), (499, .iconst 1, 1)] := dAre0 (by decide +kernel)
theorem dL_law_473 : decode cL_law 473 = .ok (.iadd, 1) := DL_law_473.1
theorem dL_law_474 : decode cL_law 474 = .ok (.iaload, 1) := DL_law_473.2.1
theorem dL_law_475 : decode cL_law 475 = .ok (.invokevirtual 52, 3) := DL_law_473.2.2.1
theorem dL_law_478 : decode cL_law 478 = .ok (.pop, 1) := DL_law_473.2.2.2.1
theorem dL_law_479 : decode cL_law 479 = .ok (.goto 1125, 3) := DL_law_473.2.2.2.2.1
theorem dL_law_482 : decode cL_law 482 = .ok (.aload_n 1, 1) := DL_law_473.2.2.2.2.2.1
theorem dL_law_483 : decode cL_law 483 = .ok (.invokevirtual 53, 3) := DL_law_473.2.2.2.2.2.2.1
theorem dL_law_486 : decode cL_law 486 = .ok (.pop, 1) := DL_law_473.2.2.2.2.2.2.2.1
theorem dL_law_487 : decode cL_law 487 = .ok (.aload_n 2, 1) := DL_law_473.2.2.2.2.2.2.2.2.1
theorem dL_law_488 : decode cL_law 488 = .ok (.invokevirtual 57, 3) := DL_law_473.2.2.2.2.2.2.2.2.2.1
theorem dL_law_491 : decode cL_law 491 = .ok (.pop, 1) := DL_law_473.2.2.2.2.2.2.2.2.2.2.1
theorem dL_law_492 : decode cL_law 492 = .ok (.goto 1112, 3) := DL_law_473.2.2.2.2.2.2.2.2.2.2.2.1
theorem dL_law_495 : decode cL_law 495 = .ok (.aload_n 1, 1) := DL_law_473.2.2.2.2.2.2.2.2.2.2.2.2.1
theorem dL_law_496 : decode cL_law 496 = .ok (.aload_n 0, 1) := DL_law_473.2.2.2.2.2.2.2.2.2.2.2.2.2.1
theorem dL_law_497 : decode cL_law 497 = .ok (.iload 4, 2) := DL_law_473.2.2.2.2.2.2.2.2.2.2.2.2.2.2.1
theorem dL_law_499 : decode cL_law 499 = .ok (.iconst 1, 1) := DL_law_473.2.2.2.2.2.2.2.2.2.2.2.2.2.2.2.1
theorem DL_law_500 : dAre cL_law [(500, .iadd, 1), (501, .iaload, 1), (502, .aload_n 0, 1), (503, .iload 4, 2), (505, .iconst 2, 1), (506, .iadd, 1), (507, .iaload, 1), (508, .invokevirtual 58, 3), (511, .pop, 1), (512, .aload_n 2, 1), (513, .aload_n 0, 1), (514, .iload 4, 2), (516, .iconst 1, 1), (517, .iadd, 1), (518, .iaload, 1), (519, .aload_n 0, 1)] := dAre0 (by decide +kernel)
theorem dL_law_500 : decode cL_law 500 = .ok (.iadd, 1) := DL_law_500.1
theorem dL_law_501 : decode cL_law 501 = .ok (.iaload, 1) := DL_law_500.2.1
theorem dL_law_502 : decode cL_law 502 = .ok (.aload_n 0, 1) := DL_law_500.2.2.1
theorem dL_law_503 : decode cL_law 503 = .ok (.iload 4, 2) := DL_law_500.2.2.2.1
theorem dL_law_505 : decode cL_law 505 = .ok (.iconst 2, 1) := DL_law_500.2.2.2.2.1
theorem dL_law_506 : decode cL_law 506 = .ok (.iadd, 1) := DL_law_500.2.2.2.2.2.1
theorem dL_law_507 : decode cL_law 507 = .ok (.iaload, 1) := DL_law_500.2.2.2.2.2.2.1
theorem dL_law_508 : decode cL_law 508 = .ok (.invokevirtual 58, 3) := DL_law_500.2.2.2.2.2.2.2.1
theorem dL_law_511 : decode cL_law 511 = .ok (.pop, 1) := DL_law_500.2.2.2.2.2.2.2.2.1
theorem dL_law_512 : decode cL_law 512 = .ok (.aload_n 2, 1) := DL_law_500.2.2.2.2.2.2.2.2.2.1
theorem dL_law_513 : decode cL_law 513 = .ok (.aload_n 0, 1) := DL_law_500.2.2.2.2.2.2.2.2.2.2.1
theorem dL_law_514 : decode cL_law 514 = .ok (.iload 4, 2) := DL_law_500.2.2.2.2.2.2.2.2.2.2.2.1
theorem dL_law_516 : decode cL_law 516 = .ok (.iconst 1, 1) := DL_law_500.2.2.2.2.2.2.2.2.2.2.2.2.1
theorem dL_law_517 : decode cL_law 517 = .ok (.iadd, 1) := DL_law_500.2.2.2.2.2.2.2.2.2.2.2.2.2.1
theorem dL_law_518 : decode cL_law 518 = .ok (.iaload, 1) := DL_law_500.2.2.2.2.2.2.2.2.2.2.2.2.2.2.1
theorem dL_law_519 : decode cL_law 519 = .ok (.aload_n 0, 1) := DL_law_500.2.2.2.2.2.2.2.2.2.2.2.2.2.2.2.1
theorem DL_law_520 : dAre cL_law [(520, .iload 4, 2), (522, .iconst 2, 1), (523, .iadd, 1), (524, .iaload, 1), (525, .invokevirtual 61, 3), (528, .pop, 1), (529, .goto 1075, 3), (532, .aload_n 1, 1), (533, .invokevirtual 62, 3), (536, .pop, 1), (537, .aload_n 2, 1), (538, .invokevirtual 65, 3), (541, .pop, 1), (542, .goto 1062, 3), (545, .aload_n 1, 1), (546, .aload_n 0, 1)] := dAre0 (by decide +kernel)
theorem dL_law_520 : decode cL_law 520 = .ok (.iload 4, 2) := DL_law_520.1
theorem dL_law_522 : decode cL_law 522 = .ok (.iconst 2, 1) := DL_law_520.2.1
theorem dL_law_523 : decode cL_law 523 = .ok (.iadd, 1) := DL_law_520.2.2.1
theorem dL_law_524 : decode cL_law 524 = .ok (.iaload, 1) := DL_law_520.2.2.2.1
theorem dL_law_525 : decode cL_law 525 = .ok (.invokevirtual 61, 3) := DL_law_520.2.2.2.2.1
theorem dL_law_528 : decode cL_law 528 = .ok (.pop, 1) := DL_law_520.2.2.2.2.2.1
theorem dL_law_529 : decode cL_law 529 = .ok (.goto 1075, 3) := DL_law_520.2.2.2.2.2.2.1
theorem dL_law_532 : decode cL_law 532 = .ok (.aload_n 1, 1) := DL_law_520.2.2.2.2.2.2.2.1
theorem dL_law_533 : decode cL_law 533 = .ok (.invokevirtual 62, 3) := DL_law_520.2.2.2.2.2.2.2.2.1
theorem dL_law_536 : decode cL_law 536 = .ok (.pop, 1) := DL_law_520.2.2.2.2.2.2.2.2.2.1
theorem dL_law_537 : decode cL_law 537 = .ok (.aload_n 2, 1) := DL_law_520.2.2.2.2.2.2.2.2.2.2.1
theorem dL_law_538 : decode cL_law 538 = .ok (.invokevirtual 65, 3) := DL_law_520.2.2.2.2.2.2.2.2.2.2.2.1
theorem dL_law_541 : decode cL_law 541 = .ok (.pop, 1) := DL_law_520.2.2.2.2.2.2.2.2.2.2.2.2.1
theorem dL_law_542 : decode cL_law 542 = .ok (.goto 1062, 3) := DL_law_520.2.2.2.2.2.2.2.2.2.2.2.2.2.1
theorem dL_law_545 : decode cL_law 545 = .ok (.aload_n 1, 1) := DL_law_520.2.2.2.2.2.2.2.2.2.2.2.2.2.2.1
theorem dL_law_546 : decode cL_law 546 = .ok (.aload_n 0, 1) := DL_law_520.2.2.2.2.2.2.2.2.2.2.2.2.2.2.2.1
theorem DL_law_547 : dAre cL_law [(547, .iload 4, 2), (549, .iconst 1, 1), (550, .iadd, 1), (551, .iaload, 1), (552, .invokevirtual 66, 3), (555, .pop, 1), (556, .aload_n 2, 1), (557, .aload_n 0, 1), (558, .iload 4, 2), (560, .iconst 1, 1), (561, .iadd, 1), (562, .iaload, 1), (563, .invokevirtual 69, 3), (566, .pop, 1), (567, .goto 1037, 3), (570, .aload_n 1, 1)] := dAre0 (by decide +kernel)
theorem dL_law_547 : decode cL_law 547 = .ok (.iload 4, 2) := DL_law_547.1
theorem dL_law_549 : decode cL_law 549 = .ok (.iconst 1, 1) := DL_law_547.2.1
theorem dL_law_550 : decode cL_law 550 = .ok (.iadd, 1) := DL_law_547.2.2.1
theorem dL_law_551 : decode cL_law 551 = .ok (.iaload, 1) := DL_law_547.2.2.2.1
theorem dL_law_552 : decode cL_law 552 = .ok (.invokevirtual 66, 3) := DL_law_547.2.2.2.2.1
theorem dL_law_555 : decode cL_law 555 = .ok (.pop, 1) := DL_law_547.2.2.2.2.2.1
theorem dL_law_556 : decode cL_law 556 = .ok (.aload_n 2, 1) := DL_law_547.2.2.2.2.2.2.1
theorem dL_law_557 : decode cL_law 557 = .ok (.aload_n 0, 1) := DL_law_547.2.2.2.2.2.2.2.1
theorem dL_law_558 : decode cL_law 558 = .ok (.iload 4, 2) := DL_law_547.2.2.2.2.2.2.2.2.1
theorem dL_law_560 : decode cL_law 560 = .ok (.iconst 1, 1) := DL_law_547.2.2.2.2.2.2.2.2.2.1
theorem dL_law_561 : decode cL_law 561 = .ok (.iadd, 1) := DL_law_547.2.2.2.2.2.2.2.2.2.2.1
theorem dL_law_562 : decode cL_law 562 = .ok (.iaload, 1) := DL_law_547.2.2.2.2.2.2.2.2.2.2.2.1
theorem dL_law_563 : decode cL_law 563 = .ok (.invokevirtual 69, 3) := DL_law_547.2.2.2.2.2.2.2.2.2.2.2.2.1
theorem dL_law_566 : decode cL_law 566 = .ok (.pop, 1) := DL_law_547.2.2.2.2.2.2.2.2.2.2.2.2.2.1
theorem dL_law_567 : decode cL_law 567 = .ok (.goto 1037, 3) := DL_law_547.2.2.2.2.2.2.2.2.2.2.2.2.2.2.1
theorem dL_law_570 : decode cL_law 570 = .ok (.aload_n 1, 1) := DL_law_547.2.2.2.2.2.2.2.2.2.2.2.2.2.2.2.1
theorem DL_law_571 : dAre cL_law [(571, .aload_n 0, 1), (572, .iload 4, 2), (574, .iconst 1, 1), (575, .iadd, 1), (576, .iaload, 1), (577, .invokevirtual 70, 3), (580, .pop, 1), (581, .aload_n 2, 1), (582, .aload_n 0, 1), (583, .iload 4, 2), (585, .iconst 1, 1), (586, .iadd, 1), (587, .iaload, 1), (588, .invokevirtual 73, 3), (591, .pop, 1), (592, .goto 1012, 3)] := dAre0 (by decide +kernel)
theorem dL_law_571 : decode cL_law 571 = .ok (.aload_n 0, 1) := DL_law_571.1
theorem dL_law_572 : decode cL_law 572 = .ok (.iload 4, 2) := DL_law_571.2.1
theorem dL_law_574 : decode cL_law 574 = .ok (.iconst 1, 1) := DL_law_571.2.2.1
theorem dL_law_575 : decode cL_law 575 = .ok (.iadd, 1) := DL_law_571.2.2.2.1
theorem dL_law_576 : decode cL_law 576 = .ok (.iaload, 1) := DL_law_571.2.2.2.2.1
theorem dL_law_577 : decode cL_law 577 = .ok (.invokevirtual 70, 3) := DL_law_571.2.2.2.2.2.1
theorem dL_law_580 : decode cL_law 580 = .ok (.pop, 1) := DL_law_571.2.2.2.2.2.2.1
theorem dL_law_581 : decode cL_law 581 = .ok (.aload_n 2, 1) := DL_law_571.2.2.2.2.2.2.2.1
theorem dL_law_582 : decode cL_law 582 = .ok (.aload_n 0, 1) := DL_law_571.2.2.2.2.2.2.2.2.1
theorem dL_law_583 : decode cL_law 583 = .ok (.iload 4, 2) := DL_law_571.2.2.2.2.2.2.2.2.2.1
theorem dL_law_585 : decode cL_law 585 = .ok (.iconst 1, 1) := DL_law_571.2.2.2.2.2.2.2.2.2.2.1
theorem dL_law_586 : decode cL_law 586 = .ok (.iadd, 1) := DL_law_571.2.2.2.2.2.2.2.2.2.2.2.1
theorem dL_law_587 : decode cL_law 587 = .ok (.iaload, 1) := DL_law_571.2.2.2.2.2.2.2.2.2.2.2.2.1
theorem dL_law_588 : decode cL_law 588 = .ok (.invokevirtual 73, 3) := DL_law_571.2.2.2.2.2.2.2.2.2.2.2.2.2.1
theorem dL_law_591 : decode cL_law 591 = .ok (.pop, 1) := DL_law_571.2.2.2.2.2.2.2.2.2.2.2.2.2.2.1
theorem dL_law_592 : decode cL_law 592 = .ok (.goto 1012, 3) := DL_law_571.2.2.2.2.2.2.2.2.2.2.2.2.2.2.2.1
theorem DL_law_595 : dAre cL_law [(595, .aload_n 1, 1), (596, .invokevirtual 74, 3), (599, .pop, 1), (600, .aload_n 2, 1), (601, .invokevirtual 77, 3), (604, .pop, 1), (605, .goto 999, 3), (608, .aload_n 1, 1), (609, .aload_n 0, 1), (610, .iload 4, 2), (612, .iconst 1, 1), (613, .iadd, 1), (614, .iaload, 1), (615, .invokevirtual 78, 3), (618, .pop, 1), (619, .aload_n 2, 1)] := dAre0 (by decide +kernel)
theorem dL_law_595 : decode cL_law 595 = .ok (.aload_n 1, 1) := DL_law_595.1
theorem dL_law_596 : decode cL_law 596 = .ok (.invokevirtual 74, 3) := DL_law_595.2.1
theorem dL_law_599 : decode cL_law 599 = .ok (.pop, 1) := DL_law_595.2.2.1
theorem dL_law_600 : decode cL_law 600 = .ok (.aload_n 2, 1) := DL_law_595.2.2.2.1
theorem dL_law_601 : decode cL_law 601 = .ok (.invokevirtual 77, 3) := DL_law_595.2.2.2.2.1
theorem dL_law_604 : decode cL_law 604 = .ok (.pop, 1) := DL_law_595.2.2.2.2.2.1
theorem dL_law_605 : decode cL_law 605 = .ok (.goto 999, 3) := DL_law_595.2.2.2.2.2.2.1
theorem dL_law_608 : decode cL_law 608 = .ok (.aload_n 1, 1) := DL_law_595.2.2.2.2.2.2.2.1
theorem dL_law_609 : decode cL_law 609 = .ok (.aload_n 0, 1) := DL_law_595.2.2.2.2.2.2.2.2.1
theorem dL_law_610 : decode cL_law 610 = .ok (.iload 4, 2) := DL_law_595.2.2.2.2.2.2.2.2.2.1
theorem dL_law_612 : decode cL_law 612 = .ok (.iconst 1, 1) := DL_law_595.2.2.2.2.2.2.2.2.2.2.1
theorem dL_law_613 : decode cL_law 613 = .ok (.iadd, 1) := DL_law_595.2.2.2.2.2.2.2.2.2.2.2.1
theorem dL_law_614 : decode cL_law 614 = .ok (.iaload, 1) := DL_law_595.2.2.2.2.2.2.2.2.2.2.2.2.1
theorem dL_law_615 : decode cL_law 615 = .ok (.invokevirtual 78, 3) := DL_law_595.2.2.2.2.2.2.2.2.2.2.2.2.2.1
theorem dL_law_618 : decode cL_law 618 = .ok (.pop, 1) := DL_law_595.2.2.2.2.2.2.2.2.2.2.2.2.2.2.1
theorem dL_law_619 : decode cL_law 619 = .ok (.aload_n 2, 1) := DL_law_595.2.2.2.2.2.2.2.2.2.2.2.2.2.2.2.1
theorem DL_law_620 : dAre cL_law [(620, .aload_n 0, 1), (621, .iload 4, 2), (623, .iconst 1, 1), (624, .iadd, 1), (625, .iaload, 1), (626, .invokevirtual 81, 3), (629, .pop, 1), (630, .goto 974, 3), (633, .aload_n 1, 1), (634, .aload_n 0, 1), (635, .iload 4, 2), (637, .iconst 1, 1), (638, .iadd, 1), (639, .iaload, 1), (640, .invokevirtual 82, 3), (643, .pop, 1)] := dAre0 (by decide +kernel)
theorem dL_law_620 : decode cL_law 620 = .ok (.aload_n 0, 1) := DL_law_620.1
theorem dL_law_621 : decode cL_law 621 = .ok (.iload 4, 2) := DL_law_620.2.1
theorem dL_law_623 : decode cL_law 623 = .ok (.iconst 1, 1) := DL_law_620.2.2.1
theorem dL_law_624 : decode cL_law 624 = .ok (.iadd, 1) := DL_law_620.2.2.2.1
theorem dL_law_625 : decode cL_law 625 = .ok (.iaload, 1) := DL_law_620.2.2.2.2.1
theorem dL_law_626 : decode cL_law 626 = .ok (.invokevirtual 81, 3) := DL_law_620.2.2.2.2.2.1
theorem dL_law_629 : decode cL_law 629 = .ok (.pop, 1) := DL_law_620.2.2.2.2.2.2.1
theorem dL_law_630 : decode cL_law 630 = .ok (.goto 974, 3) := DL_law_620.2.2.2.2.2.2.2.1
theorem dL_law_633 : decode cL_law 633 = .ok (.aload_n 1, 1) := DL_law_620.2.2.2.2.2.2.2.2.1
theorem dL_law_634 : decode cL_law 634 = .ok (.aload_n 0, 1) := DL_law_620.2.2.2.2.2.2.2.2.2.1
theorem dL_law_635 : decode cL_law 635 = .ok (.iload 4, 2) := DL_law_620.2.2.2.2.2.2.2.2.2.2.1
theorem dL_law_637 : decode cL_law 637 = .ok (.iconst 1, 1) := DL_law_620.2.2.2.2.2.2.2.2.2.2.2.1
theorem dL_law_638 : decode cL_law 638 = .ok (.iadd, 1) := DL_law_620.2.2.2.2.2.2.2.2.2.2.2.2.1
theorem dL_law_639 : decode cL_law 639 = .ok (.iaload, 1) := DL_law_620.2.2.2.2.2.2.2.2.2.2.2.2.2.1
theorem dL_law_640 : decode cL_law 640 = .ok (.invokevirtual 82, 3) := DL_law_620.2.2.2.2.2.2.2.2.2.2.2.2.2.2.1
theorem dL_law_643 : decode cL_law 643 = .ok (.pop, 1) := DL_law_620.2.2.2.2.2.2.2.2.2.2.2.2.2.2.2.1
theorem DL_law_644 : dAre cL_law [(644, .aload_n 2, 1), (645, .aload_n 0, 1), (646, .iload 4, 2), (648, .iconst 1, 1), (649, .iadd, 1), (650, .iaload, 1), (651, .invokevirtual 85, 3), (654, .pop, 1), (655, .goto 949, 3), (658, .aload_n 1, 1), (659, .aload_n 0, 1), (660, .iload 4, 2), (662, .iconst 1, 1), (663, .iadd, 1), (664, .iaload, 1), (665, .invokevirtual 86, 3)] := dAre0 (by decide +kernel)
theorem dL_law_644 : decode cL_law 644 = .ok (.aload_n 2, 1) := DL_law_644.1
theorem dL_law_645 : decode cL_law 645 = .ok (.aload_n 0, 1) := DL_law_644.2.1
theorem dL_law_646 : decode cL_law 646 = .ok (.iload 4, 2) := DL_law_644.2.2.1
theorem dL_law_648 : decode cL_law 648 = .ok (.iconst 1, 1) := DL_law_644.2.2.2.1
theorem dL_law_649 : decode cL_law 649 = .ok (.iadd, 1) := DL_law_644.2.2.2.2.1
theorem dL_law_650 : decode cL_law 650 = .ok (.iaload, 1) := DL_law_644.2.2.2.2.2.1
theorem dL_law_651 : decode cL_law 651 = .ok (.invokevirtual 85, 3) := DL_law_644.2.2.2.2.2.2.1
theorem dL_law_654 : decode cL_law 654 = .ok (.pop, 1) := DL_law_644.2.2.2.2.2.2.2.1
theorem dL_law_655 : decode cL_law 655 = .ok (.goto 949, 3) := DL_law_644.2.2.2.2.2.2.2.2.1
theorem dL_law_658 : decode cL_law 658 = .ok (.aload_n 1, 1) := DL_law_644.2.2.2.2.2.2.2.2.2.1
theorem dL_law_659 : decode cL_law 659 = .ok (.aload_n 0, 1) := DL_law_644.2.2.2.2.2.2.2.2.2.2.1
theorem dL_law_660 : decode cL_law 660 = .ok (.iload 4, 2) := DL_law_644.2.2.2.2.2.2.2.2.2.2.2.1
theorem dL_law_662 : decode cL_law 662 = .ok (.iconst 1, 1) := DL_law_644.2.2.2.2.2.2.2.2.2.2.2.2.1
theorem dL_law_663 : decode cL_law 663 = .ok (.iadd, 1) := DL_law_644.2.2.2.2.2.2.2.2.2.2.2.2.2.1
theorem dL_law_664 : decode cL_law 664 = .ok (.iaload, 1) := DL_law_644.2.2.2.2.2.2.2.2.2.2.2.2.2.2.1
theorem dL_law_665 : decode cL_law 665 = .ok (.invokevirtual 86, 3) := DL_law_644.2.2.2.2.2.2.2.2.2.2.2.2.2.2.2.1
theorem DL_law_668 : dAre cL_law [(668, .pop, 1), (669, .aload_n 2, 1), (670, .aload_n 0, 1), (671, .iload 4, 2), (673, .iconst 1, 1), (674, .iadd, 1), (675, .iaload, 1), (676, .invokevirtual 89, 3), (679, .pop, 1), (680, .goto 924, 3), (683, .aload_n 1, 1), (684, .aload_n 0, 1), (685, .iload 4, 2), (687, .iconst 1, 1), (688, .iadd, 1), (689, .iaload, 1)] := dAre0 (by decide +kernel)
theorem dL_law_668 : decode cL_law 668 = .ok (.pop, 1) := DL_law_668.1
theorem dL_law_669 : decode cL_law 669 = .ok (.aload_n 2, 1) := DL_law_668.2.1
theorem dL_law_670 : decode cL_law 670 = .ok (.aload_n 0, 1) := DL_law_668.2.2.1
theorem dL_law_671 : decode cL_law 671 = .ok (.iload 4, 2) := DL_law_668.2.2.2.1
theorem dL_law_673 : decode cL_law 673 = .ok (.iconst 1, 1) := DL_law_668.2.2.2.2.1
theorem dL_law_674 : decode cL_law 674 = .ok (.iadd, 1) := DL_law_668.2.2.2.2.2.1
theorem dL_law_675 : decode cL_law 675 = .ok (.iaload, 1) := DL_law_668.2.2.2.2.2.2.1
theorem dL_law_676 : decode cL_law 676 = .ok (.invokevirtual 89, 3) := DL_law_668.2.2.2.2.2.2.2.1
theorem dL_law_679 : decode cL_law 679 = .ok (.pop, 1) := DL_law_668.2.2.2.2.2.2.2.2.1
theorem dL_law_680 : decode cL_law 680 = .ok (.goto 924, 3) := DL_law_668.2.2.2.2.2.2.2.2.2.1
theorem dL_law_683 : decode cL_law 683 = .ok (.aload_n 1, 1) := DL_law_668.2.2.2.2.2.2.2.2.2.2.1
theorem dL_law_684 : decode cL_law 684 = .ok (.aload_n 0, 1) := DL_law_668.2.2.2.2.2.2.2.2.2.2.2.1
theorem dL_law_685 : decode cL_law 685 = .ok (.iload 4, 2) := DL_law_668.2.2.2.2.2.2.2.2.2.2.2.2.1
theorem dL_law_687 : decode cL_law 687 = .ok (.iconst 1, 1) := DL_law_668.2.2.2.2.2.2.2.2.2.2.2.2.2.1
theorem dL_law_688 : decode cL_law 688 = .ok (.iadd, 1) := DL_law_668.2.2.2.2.2.2.2.2.2.2.2.2.2.2.1
theorem dL_law_689 : decode cL_law 689 = .ok (.iaload, 1) := DL_law_668.2.2.2.2.2.2.2.2.2.2.2.2.2.2.2.1
theorem DL_law_690 : dAre cL_law [(690, .aload_n 0, 1), (691, .iload 4, 2), (693, .iconst 2, 1), (694, .iadd, 1), (695, .iaload, 1), (696, .invokevirtual 90, 3), (699, .pop, 1), (700, .aload_n 2, 1), (701, .aload_n 0, 1), (702, .iload 4, 2), (704, .iconst 1, 1), (705, .iadd, 1), (706, .iaload, 1), (707, .aload_n 0, 1), (708, .iload 4, 2), (710, .iconst 2, 1)] := dAre0 (by decide +kernel)
theorem dL_law_690 : decode cL_law 690 = .ok (.aload_n 0, 1) := DL_law_690.1
theorem dL_law_691 : decode cL_law 691 = .ok (.iload 4, 2) := DL_law_690.2.1
theorem dL_law_693 : decode cL_law 693 = .ok (.iconst 2, 1) := DL_law_690.2.2.1
theorem dL_law_694 : decode cL_law 694 = .ok (.iadd, 1) := DL_law_690.2.2.2.1
theorem dL_law_695 : decode cL_law 695 = .ok (.iaload, 1) := DL_law_690.2.2.2.2.1
theorem dL_law_696 : decode cL_law 696 = .ok (.invokevirtual 90, 3) := DL_law_690.2.2.2.2.2.1
theorem dL_law_699 : decode cL_law 699 = .ok (.pop, 1) := DL_law_690.2.2.2.2.2.2.1
theorem dL_law_700 : decode cL_law 700 = .ok (.aload_n 2, 1) := DL_law_690.2.2.2.2.2.2.2.1
theorem dL_law_701 : decode cL_law 701 = .ok (.aload_n 0, 1) := DL_law_690.2.2.2.2.2.2.2.2.1
theorem dL_law_702 : decode cL_law 702 = .ok (.iload 4, 2) := DL_law_690.2.2.2.2.2.2.2.2.2.1
theorem dL_law_704 : decode cL_law 704 = .ok (.iconst 1, 1) := DL_law_690.2.2.2.2.2.2.2.2.2.2.1
theorem dL_law_705 : decode cL_law 705 = .ok (.iadd, 1) := DL_law_690.2.2.2.2.2.2.2.2.2.2.2.1
theorem dL_law_706 : decode cL_law 706 = .ok (.iaload, 1) := DL_law_690.2.2.2.2.2.2.2.2.2.2.2.2.1
theorem dL_law_707 : decode cL_law 707 = .ok (.aload_n 0, 1) := DL_law_690.2.2.2.2.2.2.2.2.2.2.2.2.2.1
theorem dL_law_708 : decode cL_law 708 = .ok (.iload 4, 2) := DL_law_690.2.2.2.2.2.2.2.2.2.2.2.2.2.2.1
theorem dL_law_710 : decode cL_law 710 = .ok (.iconst 2, 1) := DL_law_690.2.2.2.2.2.2.2.2.2.2.2.2.2.2.2.1
theorem DL_law_711 : dAre cL_law [(711, .iadd, 1), (712, .iaload, 1), (713, .invokevirtual 93, 3), (716, .pop, 1), (717, .goto 887, 3), (720, .aload_n 1, 1), (721, .aload_n 0, 1), (722, .iload 4, 2), (724, .iconst 1, 1), (725, .iadd, 1), (726, .iaload, 1), (727, .aload_n 0, 1), (728, .iload 4, 2), (730, .iconst 2, 1), (731, .iadd, 1), (732, .iaload, 1)] := dAre0 (by decide +kernel)
theorem dL_law_711 : decode cL_law 711 = .ok (.iadd, 1) := DL_law_711.1
theorem dL_law_712 : decode cL_law 712 = .ok (.iaload, 1) := DL_law_711.2.1
theorem dL_law_713 : decode cL_law 713 = .ok (.invokevirtual 93, 3) := DL_law_711.2.2.1
theorem dL_law_716 : decode cL_law 716 = .ok (.pop, 1) := DL_law_711.2.2.2.1
theorem dL_law_717 : decode cL_law 717 = .ok (.goto 887, 3) := DL_law_711.2.2.2.2.1
theorem dL_law_720 : decode cL_law 720 = .ok (.aload_n 1, 1) := DL_law_711.2.2.2.2.2.1
theorem dL_law_721 : decode cL_law 721 = .ok (.aload_n 0, 1) := DL_law_711.2.2.2.2.2.2.1
theorem dL_law_722 : decode cL_law 722 = .ok (.iload 4, 2) := DL_law_711.2.2.2.2.2.2.2.1
theorem dL_law_724 : decode cL_law 724 = .ok (.iconst 1, 1) := DL_law_711.2.2.2.2.2.2.2.2.1
theorem dL_law_725 : decode cL_law 725 = .ok (.iadd, 1) := DL_law_711.2.2.2.2.2.2.2.2.2.1
theorem dL_law_726 : decode cL_law 726 = .ok (.iaload, 1) := DL_law_711.2.2.2.2.2.2.2.2.2.2.1
theorem dL_law_727 : decode cL_law 727 = .ok (.aload_n 0, 1) := DL_law_711.2.2.2.2.2.2.2.2.2.2.2.1
theorem dL_law_728 : decode cL_law 728 = .ok (.iload 4, 2) := DL_law_711.2.2.2.2.2.2.2.2.2.2.2.2.1
theorem dL_law_730 : decode cL_law 730 = .ok (.iconst 2, 1) := DL_law_711.2.2.2.2.2.2.2.2.2.2.2.2.2.1
theorem dL_law_731 : decode cL_law 731 = .ok (.iadd, 1) := DL_law_711.2.2.2.2.2.2.2.2.2.2.2.2.2.2.1
theorem dL_law_732 : decode cL_law 732 = .ok (.iaload, 1) := DL_law_711.2.2.2.2.2.2.2.2.2.2.2.2.2.2.2.1
theorem DL_law_733 : dAre cL_law [(733, .invokevirtual 94, 3), (736, .pop, 1), (737, .aload_n 2, 1), (738, .aload_n 0, 1), (739, .iload 4, 2), (741, .iconst 1, 1), (742, .iadd, 1), (743, .iaload, 1), (744, .aload_n 0, 1), (745, .iload 4, 2), (747, .iconst 2, 1), (748, .iadd, 1), (749, .iaload, 1), (750, .invokevirtual 97, 3), (753, .pop, 1), (754, .goto 850, 3)] := dAre0 (by decide +kernel)
theorem dL_law_733 : decode cL_law 733 = .ok (.invokevirtual 94, 3) := DL_law_733.1
theorem dL_law_736 : decode cL_law 736 = .ok (.pop, 1) := DL_law_733.2.1
theorem dL_law_737 : decode cL_law 737 = .ok (.aload_n 2, 1) := DL_law_733.2.2.1
theorem dL_law_738 : decode cL_law 738 = .ok (.aload_n 0, 1) := DL_law_733.2.2.2.1
theorem dL_law_739 : decode cL_law 739 = .ok (.iload 4, 2) := DL_law_733.2.2.2.2.1
theorem dL_law_741 : decode cL_law 741 = .ok (.iconst 1, 1) := DL_law_733.2.2.2.2.2.1
theorem dL_law_742 : decode cL_law 742 = .ok (.iadd, 1) := DL_law_733.2.2.2.2.2.2.1
theorem dL_law_743 : decode cL_law 743 = .ok (.iaload, 1) := DL_law_733.2.2.2.2.2.2.2.1
theorem dL_law_744 : decode cL_law 744 = .ok (.aload_n 0, 1) := DL_law_733.2.2.2.2.2.2.2.2.1
theorem dL_law_745 : decode cL_law 745 = .ok (.iload 4, 2) := DL_law_733.2.2.2.2.2.2.2.2.2.1
theorem dL_law_747 : decode cL_law 747 = .ok (.iconst 2, 1) := DL_law_733.2.2.2.2.2.2.2.2.2.2.1
theorem dL_law_748 : decode cL_law 748 = .ok (.iadd, 1) := DL_law_733.2.2.2.2.2.2.2.2.2.2.2.1
theorem dL_law_749 : decode cL_law 749 = .ok (.iaload, 1) := DL_law_733.2.2.2.2.2.2.2.2.2.2.2.2.1
theorem dL_law_750 : decode cL_law 750 = .ok (.invokevirtual 97, 3) := DL_law_733.2.2.2.2.2.2.2.2.2.2.2.2.2.1
theorem dL_law_753 : decode cL_law 753 = .ok (.pop, 1) := DL_law_733.2.2.2.2.2.2.2.2.2.2.2.2.2.2.1
theorem dL_law_754 : decode cL_law 754 = .ok (.goto 850, 3) := DL_law_733.2.2.2.2.2.2.2.2.2.2.2.2.2.2.2.1
theorem DL_law_757 : dAre cL_law [(757, .aload_n 1, 1), (758, .aload_n 0, 1), (759, .iload 4, 2), (761, .iconst 1, 1), (762, .iadd, 1), (763, .iaload, 1), (764, .aload_n 0, 1), (765, .iload 4, 2), (767, .iconst 2, 1), (768, .iadd, 1), (769, .iaload, 1), (770, .invokevirtual 98, 3), (773, .pop, 1), (774, .aload_n 2, 1), (775, .aload_n 0, 1), (776, .iload 4, 2)] := dAre0 (by decide +kernel)
theorem dL_law_757 : decode cL_law 757 = .ok (.aload_n 1, 1) := DL_law_757.1
theorem dL_law_758 : decode cL_law 758 = .ok (.aload_n 0, 1) := DL_law_757.2.1
theorem dL_law_759 : decode cL_law 759 = .ok (.iload 4, 2) := DL_law_757.2.2.1
theorem dL_law_761 : decode cL_law 761 = .ok (.iconst 1, 1) := DL_law_757.2.2.2.1
theorem dL_law_762 : decode cL_law 762 = .ok (.iadd, 1) := DL_law_757.2.2.2.2.1
theorem dL_law_763 : decode cL_law 763 = .ok (.iaload, 1) := DL_law_757.2.2.2.2.2.1
theorem dL_law_764 : decode cL_law 764 = .ok (.aload_n 0, 1) := DL_law_757.2.2.2.2.2.2.1
theorem dL_law_765 : decode cL_law 765 = .ok (.iload 4, 2) := DL_law_757.2.2.2.2.2.2.2.1
theorem dL_law_767 : decode cL_law 767 = .ok (.iconst 2, 1) := DL_law_757.2.2.2.2.2.2.2.2.1
theorem dL_law_768 : decode cL_law 768 = .ok (.iadd, 1) := DL_law_757.2.2.2.2.2.2.2.2.2.1
theorem dL_law_769 : decode cL_law 769 = .ok (.iaload, 1) := DL_law_757.2.2.2.2.2.2.2.2.2.2.1
theorem dL_law_770 : decode cL_law 770 = .ok (.invokevirtual 98, 3) := DL_law_757.2.2.2.2.2.2.2.2.2.2.2.1
theorem dL_law_773 : decode cL_law 773 = .ok (.pop, 1) := DL_law_757.2.2.2.2.2.2.2.2.2.2.2.2.1
theorem dL_law_774 : decode cL_law 774 = .ok (.aload_n 2, 1) := DL_law_757.2.2.2.2.2.2.2.2.2.2.2.2.2.1
theorem dL_law_775 : decode cL_law 775 = .ok (.aload_n 0, 1) := DL_law_757.2.2.2.2.2.2.2.2.2.2.2.2.2.2.1
theorem dL_law_776 : decode cL_law 776 = .ok (.iload 4, 2) := DL_law_757.2.2.2.2.2.2.2.2.2.2.2.2.2.2.2.1
theorem DL_law_778 : dAre cL_law [(778, .iconst 1, 1), (779, .iadd, 1), (780, .iaload, 1), (781, .aload_n 0, 1), (782, .iload 4, 2), (784, .iconst 2, 1), (785, .iadd, 1), (786, .iaload, 1), (787, .invokevirtual 102, 3), (790, .pop, 1), (791, .goto 813, 3), (794, .aload_n 1, 1), (795, .aload_n 0, 1), (796, .iload 4, 2), (798, .iconst 1, 1), (799, .iadd, 1)] := dAre0 (by decide +kernel)
theorem dL_law_778 : decode cL_law 778 = .ok (.iconst 1, 1) := DL_law_778.1
theorem dL_law_779 : decode cL_law 779 = .ok (.iadd, 1) := DL_law_778.2.1
theorem dL_law_780 : decode cL_law 780 = .ok (.iaload, 1) := DL_law_778.2.2.1
theorem dL_law_781 : decode cL_law 781 = .ok (.aload_n 0, 1) := DL_law_778.2.2.2.1
theorem dL_law_782 : decode cL_law 782 = .ok (.iload 4, 2) := DL_law_778.2.2.2.2.1
theorem dL_law_784 : decode cL_law 784 = .ok (.iconst 2, 1) := DL_law_778.2.2.2.2.2.1
theorem dL_law_785 : decode cL_law 785 = .ok (.iadd, 1) := DL_law_778.2.2.2.2.2.2.1
theorem dL_law_786 : decode cL_law 786 = .ok (.iaload, 1) := DL_law_778.2.2.2.2.2.2.2.1
theorem dL_law_787 : decode cL_law 787 = .ok (.invokevirtual 102, 3) := DL_law_778.2.2.2.2.2.2.2.2.1
theorem dL_law_790 : decode cL_law 790 = .ok (.pop, 1) := DL_law_778.2.2.2.2.2.2.2.2.2.1
theorem dL_law_791 : decode cL_law 791 = .ok (.goto 813, 3) := DL_law_778.2.2.2.2.2.2.2.2.2.2.1
theorem dL_law_794 : decode cL_law 794 = .ok (.aload_n 1, 1) := DL_law_778.2.2.2.2.2.2.2.2.2.2.2.1
theorem dL_law_795 : decode cL_law 795 = .ok (.aload_n 0, 1) := DL_law_778.2.2.2.2.2.2.2.2.2.2.2.2.1
theorem dL_law_796 : decode cL_law 796 = .ok (.iload 4, 2) := DL_law_778.2.2.2.2.2.2.2.2.2.2.2.2.2.1
theorem dL_law_798 : decode cL_law 798 = .ok (.iconst 1, 1) := DL_law_778.2.2.2.2.2.2.2.2.2.2.2.2.2.2.1
theorem dL_law_799 : decode cL_law 799 = .ok (.iadd, 1) := DL_law_778.2.2.2.2.2.2.2.2.2.2.2.2.2.2.2.1
theorem DL_law_800 : dAre cL_law [(800, .iaload, 1), (801, .aload_n 0, 1), (802, .iload 4, 2), (804, .iconst 2, 1), (805, .iadd, 1), (806, .iaload, 1), (807, .aload_n 0, 1), (808, .iload 4, 2), (810, .iconst 3, 1), (811, .iadd, 1), (812, .iaload, 1), (813, .aload_n 0, 1), (814, .iload 4, 2), (816, .iconst 4, 1), (817, .iadd, 1), (818, .iaload, 1)] := dAre0 (by decide +kernel)
theorem dL_law_800 : decode cL_law 800 = .ok (.iaload, 1) := DL_law_800.1
theorem dL_law_801 : decode cL_law 801 = .ok (.aload_n 0, 1) := DL_law_800.2.1
theorem dL_law_802 : decode cL_law 802 = .ok (.iload 4, 2) := DL_law_800.2.2.1
theorem dL_law_804 : decode cL_law 804 = .ok (.iconst 2, 1) := DL_law_800.2.2.2.1
theorem dL_law_805 : decode cL_law 805 = .ok (.iadd, 1) := DL_law_800.2.2.2.2.1
theorem dL_law_806 : decode cL_law 806 = .ok (.iaload, 1) := DL_law_800.2.2.2.2.2.1
theorem dL_law_807 : decode cL_law 807 = .ok (.aload_n 0, 1) := DL_law_800.2.2.2.2.2.2.1
theorem dL_law_808 : decode cL_law 808 = .ok (.iload 4, 2) := DL_law_800.2.2.2.2.2.2.2.1
theorem dL_law_810 : decode cL_law 810 = .ok (.iconst 3, 1) := DL_law_800.2.2.2.2.2.2.2.2.1
theorem dL_law_811 : decode cL_law 811 = .ok (.iadd, 1) := DL_law_800.2.2.2.2.2.2.2.2.2.1
theorem dL_law_812 : decode cL_law 812 = .ok (.iaload, 1) := DL_law_800.2.2.2.2.2.2.2.2.2.2.1
theorem dL_law_813 : decode cL_law 813 = .ok (.aload_n 0, 1) := DL_law_800.2.2.2.2.2.2.2.2.2.2.2.1
theorem dL_law_814 : decode cL_law 814 = .ok (.iload 4, 2) := DL_law_800.2.2.2.2.2.2.2.2.2.2.2.2.1
theorem dL_law_816 : decode cL_law 816 = .ok (.iconst 4, 1) := DL_law_800.2.2.2.2.2.2.2.2.2.2.2.2.2.1
theorem dL_law_817 : decode cL_law 817 = .ok (.iadd, 1) := DL_law_800.2.2.2.2.2.2.2.2.2.2.2.2.2.2.1
theorem dL_law_818 : decode cL_law 818 = .ok (.iaload, 1) := DL_law_800.2.2.2.2.2.2.2.2.2.2.2.2.2.2.2.1
theorem DL_law_819 : dAre cL_law [(819, .invokevirtual 103, 3), (822, .pop, 1), (823, .aload_n 2, 1), (824, .aload_n 0, 1), (825, .iload 4, 2), (827, .iconst 1, 1), (828, .iadd, 1), (829, .iaload, 1), (830, .aload_n 0, 1), (831, .iload 4, 2), (833, .iconst 2, 1), (834, .iadd, 1), (835, .iaload, 1), (836, .aload_n 0, 1), (837, .iload 4, 2), (839, .iconst 3, 1)] := dAre0 (by decide +kernel)
theorem dL_law_819 : decode cL_law 819 = .ok (.invokevirtual 103, 3) := DL_law_819.1
theorem dL_law_822 : decode cL_law 822 = .ok (.pop, 1) := DL_law_819.2.1
theorem dL_law_823 : decode cL_law 823 = .ok (.aload_n 2, 1) := DL_law_819.2.2.1
theorem dL_law_824 : decode cL_law 824 = .ok (.aload_n 0, 1) := DL_law_819.2.2.2.1
theorem dL_law_825 : decode cL_law 825 = .ok (.iload 4, 2) := DL_law_819.2.2.2.2.1
theorem dL_law_827 : decode cL_law 827 = .ok (.iconst 1, 1) := DL_law_819.2.2.2.2.2.1
theorem dL_law_828 : decode cL_law 828 = .ok (.iadd, 1) := DL_law_819.2.2.2.2.2.2.1
theorem dL_law_829 : decode cL_law 829 = .ok (.iaload, 1) := DL_law_819.2.2.2.2.2.2.2.1
theorem dL_law_830 : decode cL_law 830 = .ok (.aload_n 0, 1) := DL_law_819.2.2.2.2.2.2.2.2.1
theorem dL_law_831 : decode cL_law 831 = .ok (.iload 4, 2) := DL_law_819.2.2.2.2.2.2.2.2.2.1
theorem dL_law_833 : decode cL_law 833 = .ok (.iconst 2, 1) := DL_law_819.2.2.2.2.2.2.2.2.2.2.1
theorem dL_law_834 : decode cL_law 834 = .ok (.iadd, 1) := DL_law_819.2.2.2.2.2.2.2.2.2.2.2.1
theorem dL_law_835 : decode cL_law 835 = .ok (.iaload, 1) := DL_law_819.2.2.2.2.2.2.2.2.2.2.2.2.1
theorem dL_law_836 : decode cL_law 836 = .ok (.aload_n 0, 1) := DL_law_819.2.2.2.2.2.2.2.2.2.2.2.2.2.1
theorem dL_law_837 : decode cL_law 837 = .ok (.iload 4, 2) := DL_law_819.2.2.2.2.2.2.2.2.2.2.2.2.2.2.1
theorem dL_law_839 : decode cL_law 839 = .ok (.iconst 3, 1) := DL_law_819.2.2.2.2.2.2.2.2.2.2.2.2.2.2.2.1
theorem DL_law_840 : dAre cL_law [(840, .iadd, 1), (841, .iaload, 1), (842, .aload_n 0, 1), (843, .iload 4, 2), (845, .iconst 4, 1), (846, .iadd, 1), (847, .iaload, 1), (848, .invokevirtual 107, 3), (851, .pop, 1), (852, .goto 752, 3), (855, .aload_n 1, 1), (856, .aload_n 0, 1), (857, .iload 4, 2), (859, .iconst 1, 1), (860, .iadd, 1), (861, .iaload, 1)] := dAre0 (by decide +kernel)
theorem dL_law_840 : decode cL_law 840 = .ok (.iadd, 1) := DL_law_840.1
theorem dL_law_841 : decode cL_law 841 = .ok (.iaload, 1) := DL_law_840.2.1
theorem dL_law_842 : decode cL_law 842 = .ok (.aload_n 0, 1) := DL_law_840.2.2.1
theorem dL_law_843 : decode cL_law 843 = .ok (.iload 4, 2) := DL_law_840.2.2.2.1
theorem dL_law_845 : decode cL_law 845 = .ok (.iconst 4, 1) := DL_law_840.2.2.2.2.1
theorem dL_law_846 : decode cL_law 846 = .ok (.iadd, 1) := DL_law_840.2.2.2.2.2.1
theorem dL_law_847 : decode cL_law 847 = .ok (.iaload, 1) := DL_law_840.2.2.2.2.2.2.1
theorem dL_law_848 : decode cL_law 848 = .ok (.invokevirtual 107, 3) := DL_law_840.2.2.2.2.2.2.2.1
theorem dL_law_851 : decode cL_law 851 = .ok (.pop, 1) := DL_law_840.2.2.2.2.2.2.2.2.1
theorem dL_law_852 : decode cL_law 852 = .ok (.goto 752, 3) := DL_law_840.2.2.2.2.2.2.2.2.2.1
theorem dL_law_855 : decode cL_law 855 = .ok (.aload_n 1, 1) := DL_law_840.2.2.2.2.2.2.2.2.2.2.1
theorem dL_law_856 : decode cL_law 856 = .ok (.aload_n 0, 1) := DL_law_840.2.2.2.2.2.2.2.2.2.2.2.1
theorem dL_law_857 : decode cL_law 857 = .ok (.iload 4, 2) := DL_law_840.2.2.2.2.2.2.2.2.2.2.2.2.1
theorem dL_law_859 : decode cL_law 859 = .ok (.iconst 1, 1) := DL_law_840.2.2.2.2.2.2.2.2.2.2.2.2.2.1
theorem dL_law_860 : decode cL_law 860 = .ok (.iadd, 1) := DL_law_840.2.2.2.2.2.2.2.2.2.2.2.2.2.2.1
theorem dL_law_861 : decode cL_law 861 = .ok (.iaload, 1) := DL_law_840.2.2.2.2.2.2.2.2.2.2.2.2.2.2.2.1
theorem DL_law_862 : dAre cL_law [(862, .aload_n 0, 1), (863, .iload 4, 2), (865, .iconst 2, 1), (866, .iadd, 1), (867, .iaload, 1), (868, .aload_n 0, 1), (869, .iload 4, 2), (871, .iconst 3, 1), (872, .iadd, 1), (873, .iaload, 1), (874, .aload_n 0, 1), (875, .iload 4, 2), (877, .iconst 4, 1), (878, .iadd, 1), (879, .iaload, 1), (880, .invokevirtual 108, 3)] := dAre0 (by decide +kernel)
theorem dL_law_862 : decode cL_law 862 = .ok (.aload_n 0, 1) := DL_law_862.1
theorem dL_law_863 : decode cL_law 863 = .ok (.iload 4, 2) := DL_law_862.2.1
theorem dL_law_865 : decode cL_law 865 = .ok (.iconst 2, 1) := DL_law_862.2.2.1
theorem dL_law_866 : decode cL_law 866 = .ok (.iadd, 1) := DL_law_862.2.2.2.1
theorem dL_law_867 : decode cL_law 867 = .ok (.iaload, 1) := DL_law_862.2.2.2.2.1
theorem dL_law_868 : decode cL_law 868 = .ok (.aload_n 0, 1) := DL_law_862.2.2.2.2.2.1
theorem dL_law_869 : decode cL_law 869 = .ok (.iload 4, 2) := DL_law_862.2.2.2.2.2.2.1
theorem dL_law_871 : decode cL_law 871 = .ok (.iconst 3, 1) := DL_law_862.2.2.2.2.2.2.2.1
theorem dL_law_872 : decode cL_law 872 = .ok (.iadd, 1) := DL_law_862.2.2.2.2.2.2.2.2.1
theorem dL_law_873 : decode cL_law 873 = .ok (.iaload, 1) := DL_law_862.2.2.2.2.2.2.2.2.2.1
theorem dL_law_874 : decode cL_law 874 = .ok (.aload_n 0, 1) := DL_law_862.2.2.2.2.2.2.2.2.2.2.1
theorem dL_law_875 : decode cL_law 875 = .ok (.iload 4, 2) := DL_law_862.2.2.2.2.2.2.2.2.2.2.2.1
theorem dL_law_877 : decode cL_law 877 = .ok (.iconst 4, 1) := DL_law_862.2.2.2.2.2.2.2.2.2.2.2.2.1
theorem dL_law_878 : decode cL_law 878 = .ok (.iadd, 1) := DL_law_862.2.2.2.2.2.2.2.2.2.2.2.2.2.1
theorem dL_law_879 : decode cL_law 879 = .ok (.iaload, 1) := DL_law_862.2.2.2.2.2.2.2.2.2.2.2.2.2.2.1
theorem dL_law_880 : decode cL_law 880 = .ok (.invokevirtual 108, 3) := DL_law_862.2.2.2.2.2.2.2.2.2.2.2.2.2.2.2.1
theorem DL_law_883 : dAre cL_law [(883, .pop, 1), (884, .aload_n 2, 1), (885, .aload_n 0, 1), (886, .iload 4, 2), (888, .iconst 1, 1), (889, .iadd, 1), (890, .iaload, 1), (891, .aload_n 0, 1), (892, .iload 4, 2), (894, .iconst 2, 1), (895, .iadd, 1), (896, .iaload, 1), (897, .aload_n 0, 1), (898, .iload 4, 2), (900, .iconst 3, 1), (901, .iadd, 1)] := dAre0 (by decide +kernel)
theorem dL_law_883 : decode cL_law 883 = .ok (.pop, 1) := DL_law_883.1
theorem dL_law_884 : decode cL_law 884 = .ok (.aload_n 2, 1) := DL_law_883.2.1
theorem dL_law_885 : decode cL_law 885 = .ok (.aload_n 0, 1) := DL_law_883.2.2.1
theorem dL_law_886 : decode cL_law 886 = .ok (.iload 4, 2) := DL_law_883.2.2.2.1
theorem dL_law_888 : decode cL_law 888 = .ok (.iconst 1, 1) := DL_law_883.2.2.2.2.1
theorem dL_law_889 : decode cL_law 889 = .ok (.iadd, 1) := DL_law_883.2.2.2.2.2.1
theorem dL_law_890 : decode cL_law 890 = .ok (.iaload, 1) := DL_law_883.2.2.2.2.2.2.1
theorem dL_law_891 : decode cL_law 891 = .ok (.aload_n 0, 1) := DL_law_883.2.2.2.2.2.2.2.1
theorem dL_law_892 : decode cL_law 892 = .ok (.iload 4, 2) := DL_law_883.2.2.2.2.2.2.2.2.1
theorem dL_law_894 : decode cL_law 894 = .ok (.iconst 2, 1) := DL_law_883.2.2.2.2.2.2.2.2.2.1
theorem dL_law_895 : decode cL_law 895 = .ok (.iadd, 1) := DL_law_883.2.2.2.2.2.2.2.2.2.2.1
theorem dL_law_896 : decode cL_law 896 = .ok (.iaload, 1) := DL_law_883.2.2.2.2.2.2.2.2.2.2.2.1
theorem dL_law_897 : decode cL_law 897 = .ok (.aload_n 0, 1) := DL_law_883.2.2.2.2.2.2.2.2.2.2.2.2.1
theorem dL_law_898 : decode cL_law 898 = .ok (.iload 4, 2) := DL_law_883.2.2.2.2.2.2.2.2.2.2.2.2.2.1
theorem dL_law_900 : decode cL_law 900 = .ok (.iconst 3, 1) := DL_law_883.2.2.2.2.2.2.2.2.2.2.2.2.2.2.1
theorem dL_law_901 : decode cL_law 901 = .ok (.iadd, 1) := DL_law_883.2.2.2.2.2.2.2.2.2.2.2.2.2.2.2.1
theorem DL_law_902 : dAre cL_law [(902, .iaload, 1), (903, .aload_n 0, 1), (904, .iload 4, 2), (906, .iconst 4, 1), (907, .iadd, 1), (908, .iaload, 1), (909, .invokevirtual 112, 3), (912, .pop, 1), (913, .goto 691, 3), (916, .aload_n 1, 1), (917, .aload_n 0, 1), (918, .iload 4, 2), (920, .iconst 1, 1), (921, .iadd, 1), (922, .iaload, 1), (923, .invokevirtual 113, 3)] := dAre0 (by decide +kernel)
theorem dL_law_902 : decode cL_law 902 = .ok (.iaload, 1) := DL_law_902.1
theorem dL_law_903 : decode cL_law 903 = .ok (.aload_n 0, 1) := DL_law_902.2.1
theorem dL_law_904 : decode cL_law 904 = .ok (.iload 4, 2) := DL_law_902.2.2.1
theorem dL_law_906 : decode cL_law 906 = .ok (.iconst 4, 1) := DL_law_902.2.2.2.1
theorem dL_law_907 : decode cL_law 907 = .ok (.iadd, 1) := DL_law_902.2.2.2.2.1
theorem dL_law_908 : decode cL_law 908 = .ok (.iaload, 1) := DL_law_902.2.2.2.2.2.1
theorem dL_law_909 : decode cL_law 909 = .ok (.invokevirtual 112, 3) := DL_law_902.2.2.2.2.2.2.1
theorem dL_law_912 : decode cL_law 912 = .ok (.pop, 1) := DL_law_902.2.2.2.2.2.2.2.1
theorem dL_law_913 : decode cL_law 913 = .ok (.goto 691, 3) := DL_law_902.2.2.2.2.2.2.2.2.1
theorem dL_law_916 : decode cL_law 916 = .ok (.aload_n 1, 1) := DL_law_902.2.2.2.2.2.2.2.2.2.1
theorem dL_law_917 : decode cL_law 917 = .ok (.aload_n 0, 1) := DL_law_902.2.2.2.2.2.2.2.2.2.2.1
theorem dL_law_918 : decode cL_law 918 = .ok (.iload 4, 2) := DL_law_902.2.2.2.2.2.2.2.2.2.2.2.1
theorem dL_law_920 : decode cL_law 920 = .ok (.iconst 1, 1) := DL_law_902.2.2.2.2.2.2.2.2.2.2.2.2.1
theorem dL_law_921 : decode cL_law 921 = .ok (.iadd, 1) := DL_law_902.2.2.2.2.2.2.2.2.2.2.2.2.2.1
theorem dL_law_922 : decode cL_law 922 = .ok (.iaload, 1) := DL_law_902.2.2.2.2.2.2.2.2.2.2.2.2.2.2.1
theorem dL_law_923 : decode cL_law 923 = .ok (.invokevirtual 113, 3) := DL_law_902.2.2.2.2.2.2.2.2.2.2.2.2.2.2.2.1
theorem DL_law_926 : dAre cL_law [(926, .pop2, 1), (927, .aload_n 2, 1), (928, .aload_n 0, 1), (929, .iload 4, 2), (931, .iconst 1, 1), (932, .iadd, 1), (933, .iaload, 1), (934, .invokevirtual 117, 3), (937, .pop2, 1), (938, .goto 666, 3), (941, .aload_n 1, 1), (942, .aload_n 0, 1), (943, .iload 4, 2), (945, .iconst 1, 1), (946, .iadd, 1), (947, .iaload, 1)] := dAre0 (by decide +kernel)
theorem dL_law_926 : decode cL_law 926 = .ok (.pop2, 1) := DL_law_926.1
theorem dL_law_927 : decode cL_law 927 = .ok (.aload_n 2, 1) := DL_law_926.2.1
theorem dL_law_928 : decode cL_law 928 = .ok (.aload_n 0, 1) := DL_law_926.2.2.1
theorem dL_law_929 : decode cL_law 929 = .ok (.iload 4, 2) := DL_law_926.2.2.2.1
theorem dL_law_931 : decode cL_law 931 = .ok (.iconst 1, 1) := DL_law_926.2.2.2.2.1
theorem dL_law_932 : decode cL_law 932 = .ok (.iadd, 1) := DL_law_926.2.2.2.2.2.1
theorem dL_law_933 : decode cL_law 933 = .ok (.iaload, 1) := DL_law_926.2.2.2.2.2.2.1
theorem dL_law_934 : decode cL_law 934 = .ok (.invokevirtual 117, 3) := DL_law_926.2.2.2.2.2.2.2.1
theorem dL_law_937 : decode cL_law 937 = .ok (.pop2, 1) := DL_law_926.2.2.2.2.2.2.2.2.1
theorem dL_law_938 : decode cL_law 938 = .ok (.goto 666, 3) := DL_law_926.2.2.2.2.2.2.2.2.2.1
theorem dL_law_941 : decode cL_law 941 = .ok (.aload_n 1, 1) := DL_law_926.2.2.2.2.2.2.2.2.2.2.1
theorem dL_law_942 : decode cL_law 942 = .ok (.aload_n 0, 1) := DL_law_926.2.2.2.2.2.2.2.2.2.2.2.1
theorem dL_law_943 : decode cL_law 943 = .ok (.iload 4, 2) := DL_law_926.2.2.2.2.2.2.2.2.2.2.2.2.1
theorem dL_law_945 : decode cL_law 945 = .ok (.iconst 1, 1) := DL_law_926.2.2.2.2.2.2.2.2.2.2.2.2.2.1
theorem dL_law_946 : decode cL_law 946 = .ok (.iadd, 1) := DL_law_926.2.2.2.2.2.2.2.2.2.2.2.2.2.2.1
theorem dL_law_947 : decode cL_law 947 = .ok (.iaload, 1) := DL_law_926.2.2.2.2.2.2.2.2.2.2.2.2.2.2.2.1
theorem DL_law_948 : dAre cL_law [(948, .aload_n 0, 1), (949, .iload 4, 2), (951, .iconst 2, 1), (952, .iadd, 1), (953, .iaload, 1), (954, .invokevirtual 118, 3), (957, .pop, 1), (958, .aload_n 2, 1), (959, .aload_n 0, 1), (960, .iload 4, 2), (962, .iconst 1, 1), (963, .iadd, 1), (964, .iaload, 1), (965, .aload_n 0, 1), (966, .iload 4, 2), (968, .iconst 2, 1)] := dAre0 (by decide +kernel)
theorem dL_law_948 : decode cL_law 948 = .ok (.aload_n 0, 1) := DL_law_948.1
theorem dL_law_949 : decode cL_law 949 = .ok (.iload 4, 2) := DL_law_948.2.1
theorem dL_law_951 : decode cL_law 951 = .ok (.iconst 2, 1) := DL_law_948.2.2.1
theorem dL_law_952 : decode cL_law 952 = .ok (.iadd, 1) := DL_law_948.2.2.2.1
theorem dL_law_953 : decode cL_law 953 = .ok (.iaload, 1) := DL_law_948.2.2.2.2.1
theorem dL_law_954 : decode cL_law 954 = .ok (.invokevirtual 118, 3) := DL_law_948.2.2.2.2.2.1
theorem dL_law_957 : decode cL_law 957 = .ok (.pop, 1) := DL_law_948.2.2.2.2.2.2.1
theorem dL_law_958 : decode cL_law 958 = .ok (.aload_n 2, 1) := DL_law_948.2.2.2.2.2.2.2.1
theorem dL_law_959 : decode cL_law 959 = .ok (.aload_n 0, 1) := DL_law_948.2.2.2.2.2.2.2.2.1
theorem dL_law_960 : decode cL_law 960 = .ok (.iload 4, 2) := DL_law_948.2.2.2.2.2.2.2.2.2.1
theorem dL_law_962 : decode cL_law 962 = .ok (.iconst 1, 1) := DL_law_948.2.2.2.2.2.2.2.2.2.2.1
theorem dL_law_963 : decode cL_law 963 = .ok (.iadd, 1) := DL_law_948.2.2.2.2.2.2.2.2.2.2.2.1
theorem dL_law_964 : decode cL_law 964 = .ok (.iaload, 1) := DL_law_948.2.2.2.2.2.2.2.2.2.2.2.2.1
theorem dL_law_965 : decode cL_law 965 = .ok (.aload_n 0, 1) := DL_law_948.2.2.2.2.2.2.2.2.2.2.2.2.2.1
theorem dL_law_966 : decode cL_law 966 = .ok (.iload 4, 2) := DL_law_948.2.2.2.2.2.2.2.2.2.2.2.2.2.2.1
theorem dL_law_968 : decode cL_law 968 = .ok (.iconst 2, 1) := DL_law_948.2.2.2.2.2.2.2.2.2.2.2.2.2.2.2.1
theorem DL_law_969 : dAre cL_law [(969, .iadd, 1), (970, .iaload, 1), (971, .invokevirtual 121, 3), (974, .pop, 1), (975, .goto 629, 3), (978, .aload_n 1, 1), (979, .aload_n 0, 1), (980, .iload 4, 2), (982, .iconst 1, 1), (983, .iadd, 1), (984, .iaload, 1), (985, .invokevirtual 122, 3), (988, .pop2, 1), (989, .aload_n 2, 1), (990, .aload_n 0, 1), (991, .iload 4, 2)] := dAre0 (by decide +kernel)
theorem dL_law_969 : decode cL_law 969 = .ok (.iadd, 1) := DL_law_969.1
theorem dL_law_970 : decode cL_law 970 = .ok (.iaload, 1) := DL_law_969.2.1
theorem dL_law_971 : decode cL_law 971 = .ok (.invokevirtual 121, 3) := DL_law_969.2.2.1
theorem dL_law_974 : decode cL_law 974 = .ok (.pop, 1) := DL_law_969.2.2.2.1
theorem dL_law_975 : decode cL_law 975 = .ok (.goto 629, 3) := DL_law_969.2.2.2.2.1
theorem dL_law_978 : decode cL_law 978 = .ok (.aload_n 1, 1) := DL_law_969.2.2.2.2.2.1
theorem dL_law_979 : decode cL_law 979 = .ok (.aload_n 0, 1) := DL_law_969.2.2.2.2.2.2.1
theorem dL_law_980 : decode cL_law 980 = .ok (.iload 4, 2) := DL_law_969.2.2.2.2.2.2.2.1
theorem dL_law_982 : decode cL_law 982 = .ok (.iconst 1, 1) := DL_law_969.2.2.2.2.2.2.2.2.1
theorem dL_law_983 : decode cL_law 983 = .ok (.iadd, 1) := DL_law_969.2.2.2.2.2.2.2.2.2.1
theorem dL_law_984 : decode cL_law 984 = .ok (.iaload, 1) := DL_law_969.2.2.2.2.2.2.2.2.2.2.1
theorem dL_law_985 : decode cL_law 985 = .ok (.invokevirtual 122, 3) := DL_law_969.2.2.2.2.2.2.2.2.2.2.2.1
theorem dL_law_988 : decode cL_law 988 = .ok (.pop2, 1) := DL_law_969.2.2.2.2.2.2.2.2.2.2.2.2.1
theorem dL_law_989 : decode cL_law 989 = .ok (.aload_n 2, 1) := DL_law_969.2.2.2.2.2.2.2.2.2.2.2.2.2.1
theorem dL_law_990 : decode cL_law 990 = .ok (.aload_n 0, 1) := DL_law_969.2.2.2.2.2.2.2.2.2.2.2.2.2.2.1
theorem dL_law_991 : decode cL_law 991 = .ok (.iload 4, 2) := DL_law_969.2.2.2.2.2.2.2.2.2.2.2.2.2.2.2.1
theorem DL_law_993 : dAre cL_law [(993, .iconst 1, 1), (994, .iadd, 1), (995, .iaload, 1), (996, .invokevirtual 125, 3), (999, .pop2, 1), (1000, .goto 604, 3), (1003, .aload_n 1, 1), (1004, .aload_n 0, 1), (1005, .iload 4, 2), (1007, .iconst 1, 1), (1008, .iadd, 1), (1009, .iaload, 1), (1010, .invokevirtual 126, 3), (1013, .pop, 1), (1014, .aload_n 2, 1), (1015, .aload_n 0, 1)] := dAre0 (by decide +kernel)
theorem dL_law_993 : decode cL_law 993 = .ok (.iconst 1, 1) := DL_law_993.1
theorem dL_law_994 : decode cL_law 994 = .ok (.iadd, 1) := DL_law_993.2.1
theorem dL_law_995 : decode cL_law 995 = .ok (.iaload, 1) := DL_law_993.2.2.1
theorem dL_law_996 : decode cL_law 996 = .ok (.invokevirtual 125, 3) := DL_law_993.2.2.2.1
theorem dL_law_999 : decode cL_law 999 = .ok (.pop2, 1) := DL_law_993.2.2.2.2.1
theorem dL_law_1000 : decode cL_law 1000 = .ok (.goto 604, 3) := DL_law_993.2.2.2.2.2.1
theorem dL_law_1003 : decode cL_law 1003 = .ok (.aload_n 1, 1) := DL_law_993.2.2.2.2.2.2.1
theorem dL_law_1004 : decode cL_law 1004 = .ok (.aload_n 0, 1) := DL_law_993.2.2.2.2.2.2.2.1
theorem dL_law_1005 : decode cL_law 1005 = .ok (.iload 4, 2) := DL_law_993.2.2.2.2.2.2.2.2.1
theorem dL_law_1007 : decode cL_law 1007 = .ok (.iconst 1, 1) := DL_law_993.2.2.2.2.2.2.2.2.2.1
theorem dL_law_1008 : decode cL_law 1008 = .ok (.iadd, 1) := DL_law_993.2.2.2.2.2.2.2.2.2.2.1
theorem dL_law_1009 : decode cL_law 1009 = .ok (.iaload, 1) := DL_law_993.2.2.2.2.2.2.2.2.2.2.2.1
theorem dL_law_1010 : decode cL_law 1010 = .ok (.invokevirtual 126, 3) := DL_law_993.2.2.2.2.2.2.2.2.2.2.2.2.1
theorem dL_law_1013 : decode cL_law 1013 = .ok (.pop, 1) := DL_law_993.2.2.2.2.2.2.2.2.2.2.2.2.2.1
theorem dL_law_1014 : decode cL_law 1014 = .ok (.aload_n 2, 1) := DL_law_993.2.2.2.2.2.2.2.2.2.2.2.2.2.2.1
theorem dL_law_1015 : decode cL_law 1015 = .ok (.aload_n 0, 1) := DL_law_993.2.2.2.2.2.2.2.2.2.2.2.2.2.2.2.1
theorem DL_law_1016 : dAre cL_law [(1016, .iload 4, 2), (1018, .iconst 1, 1), (1019, .iadd, 1), (1020, .iaload, 1), (1021, .invokevirtual 129, 3), (1024, .pop, 1), (1025, .goto 579, 3), (1028, .aload_n 1, 1), (1029, .aload_n 0, 1), (1030, .iload 4, 2), (1032, .iconst 1, 1), (1033, .iadd, 1), (1034, .iaload, 1), (1035, .aload_n 0, 1), (1036, .iload 4, 2), (1038, .iconst 2, 1)] := dAre0 (by decide +kernel)
theorem dL_law_1016 : decode cL_law 1016 = .ok (.iload 4, 2) := DL_law_1016.1
theorem dL_law_1018 : decode cL_law 1018 = .ok (.iconst 1, 1) := DL_law_1016.2.1
theorem dL_law_1019 : decode cL_law 1019 = .ok (.iadd, 1) := DL_law_1016.2.2.1
theorem dL_law_1020 : decode cL_law 1020 = .ok (.iaload, 1) := DL_law_1016.2.2.2.1
theorem dL_law_1021 : decode cL_law 1021 = .ok (.invokevirtual 129, 3) := DL_law_1016.2.2.2.2.1
theorem dL_law_1024 : decode cL_law 1024 = .ok (.pop, 1) := DL_law_1016.2.2.2.2.2.1
theorem dL_law_1025 : decode cL_law 1025 = .ok (.goto 579, 3) := DL_law_1016.2.2.2.2.2.2.1
theorem dL_law_1028 : decode cL_law 1028 = .ok (.aload_n 1, 1) := DL_law_1016.2.2.2.2.2.2.2.1
theorem dL_law_1029 : decode cL_law 1029 = .ok (.aload_n 0, 1) := DL_law_1016.2.2.2.2.2.2.2.2.1
theorem dL_law_1030 : decode cL_law 1030 = .ok (.iload 4, 2) := DL_law_1016.2.2.2.2.2.2.2.2.2.1
theorem dL_law_1032 : decode cL_law 1032 = .ok (.iconst 1, 1) := DL_law_1016.2.2.2.2.2.2.2.2.2.2.1
theorem dL_law_1033 : decode cL_law 1033 = .ok (.iadd, 1) := DL_law_1016.2.2.2.2.2.2.2.2.2.2.2.1
theorem dL_law_1034 : decode cL_law 1034 = .ok (.iaload, 1) := DL_law_1016.2.2.2.2.2.2.2.2.2.2.2.2.1
theorem dL_law_1035 : decode cL_law 1035 = .ok (.aload_n 0, 1) := DL_law_1016.2.2.2.2.2.2.2.2.2.2.2.2.2.1
theorem dL_law_1036 : decode cL_law 1036 = .ok (.iload 4, 2) := DL_law_1016.2.2.2.2.2.2.2.2.2.2.2.2.2.2.1
theorem dL_law_1038 : decode cL_law 1038 = .ok (.iconst 2, 1) := DL_law_1016.2.2.2.2.2.2.2.2.2.2.2.2.2.2.2.1
theorem DL_law_1039 : dAre cL_law [(1039, .iadd, 1), (1040, .iaload, 1), (1041, .aload_n 0, 1), (1042, .iload 4, 2), (1044, .iconst 3, 1), (1045, .iadd, 1), (1046, .iaload, 1), (1047, .aload_n 0, 1), (1048, .iload 4, 2), (1050, .iconst 4, 1), (1051, .iadd, 1), (1052, .iaload, 1), (1053, .invokevirtual 130, 3), (1056, .pop, 1), (1057, .aload_n 2, 1), (1058, .aload_n 0, 1)] := dAre0 (by decide +kernel)
theorem dL_law_1039 : decode cL_law 1039 = .ok (.iadd, 1) := DL_law_1039.1
theorem dL_law_1040 : decode cL_law 1040 = .ok (.iaload, 1) := DL_law_1039.2.1
theorem dL_law_1041 : decode cL_law 1041 = .ok (.aload_n 0, 1) := DL_law_1039.2.2.1
theorem dL_law_1042 : decode cL_law 1042 = .ok (.iload 4, 2) := DL_law_1039.2.2.2.1
theorem dL_law_1044 : decode cL_law 1044 = .ok (.iconst 3, 1) := DL_law_1039.2.2.2.2.1
theorem dL_law_1045 : decode cL_law 1045 = .ok (.iadd, 1) := DL_law_1039.2.2.2.2.2.1
theorem dL_law_1046 : decode cL_law 1046 = .ok (.iaload, 1) := DL_law_1039.2.2.2.2.2.2.1
theorem dL_law_1047 : decode cL_law 1047 = .ok (.aload_n 0, 1) := DL_law_1039.2.2.2.2.2.2.2.1
theorem dL_law_1048 : decode cL_law 1048 = .ok (.iload 4, 2) := DL_law_1039.2.2.2.2.2.2.2.2.1
theorem dL_law_1050 : decode cL_law 1050 = .ok (.iconst 4, 1) := DL_law_1039.2.2.2.2.2.2.2.2.2.1
theorem dL_law_1051 : decode cL_law 1051 = .ok (.iadd, 1) := DL_law_1039.2.2.2.2.2.2.2.2.2.2.1
theorem dL_law_1052 : decode cL_law 1052 = .ok (.iaload, 1) := DL_law_1039.2.2.2.2.2.2.2.2.2.2.2.1
theorem dL_law_1053 : decode cL_law 1053 = .ok (.invokevirtual 130, 3) := DL_law_1039.2.2.2.2.2.2.2.2.2.2.2.2.1
theorem dL_law_1056 : decode cL_law 1056 = .ok (.pop, 1) := DL_law_1039.2.2.2.2.2.2.2.2.2.2.2.2.2.1
theorem dL_law_1057 : decode cL_law 1057 = .ok (.aload_n 2, 1) := DL_law_1039.2.2.2.2.2.2.2.2.2.2.2.2.2.2.1
theorem dL_law_1058 : decode cL_law 1058 = .ok (.aload_n 0, 1) := DL_law_1039.2.2.2.2.2.2.2.2.2.2.2.2.2.2.2.1
theorem DL_law_1059 : dAre cL_law [(1059, .iload 4, 2), (1061, .iconst 1, 1), (1062, .iadd, 1), (1063, .iaload, 1), (1064, .aload_n 0, 1), (1065, .iload 4, 2), (1067, .iconst 2, 1), (1068, .iadd, 1), (1069, .iaload, 1), (1070, .aload_n 0, 1), (1071, .iload 4, 2), (1073, .iconst 3, 1), (1074, .iadd, 1), (1075, .iaload, 1), (1076, .aload_n 0, 1), (1077, .iload 4, 2)] := dAre0 (by decide +kernel)
theorem dL_law_1059 : decode cL_law 1059 = .ok (.iload 4, 2) := DL_law_1059.1
theorem dL_law_1061 : decode cL_law 1061 = .ok (.iconst 1, 1) := DL_law_1059.2.1
theorem dL_law_1062 : decode cL_law 1062 = .ok (.iadd, 1) := DL_law_1059.2.2.1
theorem dL_law_1063 : decode cL_law 1063 = .ok (.iaload, 1) := DL_law_1059.2.2.2.1
theorem dL_law_1064 : decode cL_law 1064 = .ok (.aload_n 0, 1) := DL_law_1059.2.2.2.2.1
theorem dL_law_1065 : decode cL_law 1065 = .ok (.iload 4, 2) := DL_law_1059.2.2.2.2.2.1
theorem dL_law_1067 : decode cL_law 1067 = .ok (.iconst 2, 1) := DL_law_1059.2.2.2.2.2.2.1
theorem dL_law_1068 : decode cL_law 1068 = .ok (.iadd, 1) := DL_law_1059.2.2.2.2.2.2.2.1
theorem dL_law_1069 : decode cL_law 1069 = .ok (.iaload, 1) := DL_law_1059.2.2.2.2.2.2.2.2.1
theorem dL_law_1070 : decode cL_law 1070 = .ok (.aload_n 0, 1) := DL_law_1059.2.2.2.2.2.2.2.2.2.1
theorem dL_law_1071 : decode cL_law 1071 = .ok (.iload 4, 2) := DL_law_1059.2.2.2.2.2.2.2.2.2.2.1
theorem dL_law_1073 : decode cL_law 1073 = .ok (.iconst 3, 1) := DL_law_1059.2.2.2.2.2.2.2.2.2.2.2.1
theorem dL_law_1074 : decode cL_law 1074 = .ok (.iadd, 1) := DL_law_1059.2.2.2.2.2.2.2.2.2.2.2.2.1
theorem dL_law_1075 : decode cL_law 1075 = .ok (.iaload, 1) := DL_law_1059.2.2.2.2.2.2.2.2.2.2.2.2.2.1
theorem dL_law_1076 : decode cL_law 1076 = .ok (.aload_n 0, 1) := DL_law_1059.2.2.2.2.2.2.2.2.2.2.2.2.2.2.1
theorem dL_law_1077 : decode cL_law 1077 = .ok (.iload 4, 2) := DL_law_1059.2.2.2.2.2.2.2.2.2.2.2.2.2.2.2.1
theorem DL_law_1079 : dAre cL_law [(1079, .iconst 4, 1), (1080, .iadd, 1), (1081, .iaload, 1), (1082, .invokevirtual 133, 3), (1085, .pop, 1), (1086, .goto 518, 3), (1089, .aload_n 1, 1), (1090, .aload_n 0, 1), (1091, .iload 4, 2), (1093, .iconst 1, 1), (1094, .iadd, 1), (1095, .iaload, 1), (1096, .aload_n 0, 1), (1097, .iload 4, 2), (1099, .iconst 2, 1), (1100, .iadd, 1)] := dAre0 (by decide +kernel)
theorem dL_law_1079 : decode cL_law 1079 = .ok (.iconst 4, 1) := DL_law_1079.1
theorem dL_law_1080 : decode cL_law 1080 = .ok (.iadd, 1) := DL_law_1079.2.1
theorem dL_law_1081 : decode cL_law 1081 = .ok (.iaload, 1) := DL_law_1079.2.2.1
theorem dL_law_1082 : decode cL_law 1082 = .ok (.invokevirtual 133, 3) := DL_law_1079.2.2.2.1
theorem dL_law_1085 : decode cL_law 1085 = .ok (.pop, 1) := DL_law_1079.2.2.2.2.1
theorem dL_law_1086 : decode cL_law 1086 = .ok (.goto 518, 3) := DL_law_1079.2.2.2.2.2.1
theorem dL_law_1089 : decode cL_law 1089 = .ok (.aload_n 1, 1) := DL_law_1079.2.2.2.2.2.2.1
theorem dL_law_1090 : decode cL_law 1090 = .ok (.aload_n 0, 1) := DL_law_1079.2.2.2.2.2.2.2.1
theorem dL_law_1091 : decode cL_law 1091 = .ok (.iload 4, 2) := DL_law_1079.2.2.2.2.2.2.2.2.1
theorem dL_law_1093 : decode cL_law 1093 = .ok (.iconst 1, 1) := DL_law_1079.2.2.2.2.2.2.2.2.2.1
theorem dL_law_1094 : decode cL_law 1094 = .ok (.iadd, 1) := DL_law_1079.2.2.2.2.2.2.2.2.2.2.1
theorem dL_law_1095 : decode cL_law 1095 = .ok (.iaload, 1) := DL_law_1079.2.2.2.2.2.2.2.2.2.2.2.1
theorem dL_law_1096 : decode cL_law 1096 = .ok (.aload_n 0, 1) := DL_law_1079.2.2.2.2.2.2.2.2.2.2.2.2.1
theorem dL_law_1097 : decode cL_law 1097 = .ok (.iload 4, 2) := DL_law_1079.2.2.2.2.2.2.2.2.2.2.2.2.2.1
theorem dL_law_1099 : decode cL_law 1099 = .ok (.iconst 2, 1) := DL_law_1079.2.2.2.2.2.2.2.2.2.2.2.2.2.2.1
theorem dL_law_1100 : decode cL_law 1100 = .ok (.iadd, 1) := DL_law_1079.2.2.2.2.2.2.2.2.2.2.2.2.2.2.2.1
theorem DL_law_1101 : dAre cL_law [(1101, .iaload, 1), (1102, .aload_n 0, 1), (1103, .iload 4, 2), (1105, .iconst 3, 1), (1106, .iadd, 1), (1107, .iaload, 1), (1108, .aload_n 0, 1), (1109, .iload 4, 2), (1111, .iconst 4, 1), (1112, .iadd, 1), (1113, .iaload, 1), (1114, .invokevirtual 134, 3), (1117, .pop, 1), (1118, .aload_n 2, 1), (1119, .aload_n 0, 1), (1120, .iload 4, 2)] := dAre0 (by decide +kernel)
theorem dL_law_1101 : decode cL_law 1101 = .ok (.iaload, 1) := DL_law_1101.1
theorem dL_law_1102 : decode cL_law 1102 = .ok (.aload_n 0, 1) := DL_law_1101.2.1
theorem dL_law_1103 : decode cL_law 1103 = .ok (.iload 4, 2) := DL_law_1101.2.2.1
theorem dL_law_1105 : decode cL_law 1105 = .ok (.iconst 3, 1) := DL_law_1101.2.2.2.1
theorem dL_law_1106 : decode cL_law 1106 = .ok (.iadd, 1) := DL_law_1101.2.2.2.2.1
theorem dL_law_1107 : decode cL_law 1107 = .ok (.iaload, 1) := DL_law_1101.2.2.2.2.2.1
theorem dL_law_1108 : decode cL_law 1108 = .ok (.aload_n 0, 1) := DL_law_1101.2.2.2.2.2.2.1
theorem dL_law_1109 : decode cL_law 1109 = .ok (.iload 4, 2) := DL_law_1101.2.2.2.2.2.2.2.1
theorem dL_law_1111 : decode cL_law 1111 = .ok (.iconst 4, 1) := DL_law_1101.2.2.2.2.2.2.2.2.1
theorem dL_law_1112 : decode cL_law 1112 = .ok (.iadd, 1) := DL_law_1101.2.2.2.2.2.2.2.2.2.1
theorem dL_law_1113 : decode cL_law 1113 = .ok (.iaload, 1) := DL_law_1101.2.2.2.2.2.2.2.2.2.2.1
theorem dL_law_1114 : decode cL_law 1114 = .ok (.invokevirtual 134, 3) := DL_law_1101.2.2.2.2.2.2.2.2.2.2.2.1
theorem dL_law_1117 : decode cL_law 1117 = .ok (.pop, 1) := DL_law_1101.2.2.2.2.2.2.2.2.2.2.2.2.1
theorem dL_law_1118 : decode cL_law 1118 = .ok (.aload_n 2, 1) := DL_law_1101.2.2.2.2.2.2.2.2.2.2.2.2.2.1
theorem dL_law_1119 : decode cL_law 1119 = .ok (.aload_n 0, 1) := DL_law_1101.2.2.2.2.2.2.2.2.2.2.2.2.2.2.1
theorem dL_law_1120 : decode cL_law 1120 = .ok (.iload 4, 2) := DL_law_1101.2.2.2.2.2.2.2.2.2.2.2.2.2.2.2.1
theorem DL_law_1122 : dAre cL_law [(1122, .iconst 1, 1), (1123, .iadd, 1), (1124, .iaload, 1), (1125, .aload_n 0, 1), (1126, .iload 4, 2), (1128, .iconst 2, 1), (1129, .iadd, 1), (1130, .iaload, 1), (1131, .aload_n 0, 1), (1132, .iload 4, 2), (1134, .iconst 3, 1), (1135, .iadd, 1), (1136, .iaload, 1), (1137, .aload_n 0, 1), (1138, .iload 4, 2), (1140, .iconst 4, 1)] := dAre0 (by decide +kernel)
theorem dL_law_1122 : decode cL_law 1122 = .ok (.iconst 1, 1) := DL_law_1122.1
theorem dL_law_1123 : decode cL_law 1123 = .ok (.iadd, 1) := DL_law_1122.2.1
theorem dL_law_1124 : decode cL_law 1124 = .ok (.iaload, 1) := DL_law_1122.2.2.1
theorem dL_law_1125 : decode cL_law 1125 = .ok (.aload_n 0, 1) := DL_law_1122.2.2.2.1
theorem dL_law_1126 : decode cL_law 1126 = .ok (.iload 4, 2) := DL_law_1122.2.2.2.2.1
theorem dL_law_1128 : decode cL_law 1128 = .ok (.iconst 2, 1) := DL_law_1122.2.2.2.2.2.1
theorem dL_law_1129 : decode cL_law 1129 = .ok (.iadd, 1) := DL_law_1122.2.2.2.2.2.2.1
theorem dL_law_1130 : decode cL_law 1130 = .ok (.iaload, 1) := DL_law_1122.2.2.2.2.2.2.2.1
theorem dL_law_1131 : decode cL_law 1131 = .ok (.aload_n 0, 1) := DL_law_1122.2.2.2.2.2.2.2.2.1
theorem dL_law_1132 : decode cL_law 1132 = .ok (.iload 4, 2) := DL_law_1122.2.2.2.2.2.2.2.2.2.1
theorem dL_law_1134 : decode cL_law 1134 = .ok (.iconst 3, 1) := DL_law_1122.2.2.2.2.2.2.2.2.2.2.1
theorem dL_law_1135 : decode cL_law 1135 = .ok (.iadd, 1) := DL_law_1122.2.2.2.2.2.2.2.2.2.2.2.1
theorem dL_law_1136 : decode cL_law 1136 = .ok (.iaload, 1) := DL_law_1122.2.2.2.2.2.2.2.2.2.2.2.2.1
theorem dL_law_1137 : decode cL_law 1137 = .ok (.aload_n 0, 1) := DL_law_1122.2.2.2.2.2.2.2.2.2.2.2.2.2.1
theorem dL_law_1138 : decode cL_law 1138 = .ok (.iload 4, 2) := DL_law_1122.2.2.2.2.2.2.2.2.2.2.2.2.2.2.1
theorem dL_law_1140 : decode cL_law 1140 = .ok (.iconst 4, 1) := DL_law_1122.2.2.2.2.2.2.2.2.2.2.2.2.2.2.2.1
theorem DL_law_1141 : dAre cL_law [(1141, .iadd, 1), (1142, .iaload, 1), (1143, .invokevirtual 137, 3), (1146, .pop, 1), (1147, .goto 457, 3), (1150, .aload_n 1, 1), (1151, .aload_n 0, 1), (1152, .iload 4, 2), (1154, .iconst 1, 1), (1155, .iadd, 1), (1156, .iaload, 1), (1157, .invokevirtual 138, 3), (1160, .pop, 1), (1161, .aload_n 2, 1), (1162, .aload_n 0, 1), (1163, .iload 4, 2)] := dAre0 (by decide +kernel)
theorem dL_law_1141 : decode cL_law 1141 = .ok (.iadd, 1) := DL_law_1141.1
theorem dL_law_1142 : decode cL_law 1142 = .ok (.iaload, 1) := DL_law_1141.2.1
theorem dL_law_1143 : decode cL_law 1143 = .ok (.invokevirtual 137, 3) := DL_law_1141.2.2.1
theorem dL_law_1146 : decode cL_law 1146 = .ok (.pop, 1) := DL_law_1141.2.2.2.1
theorem dL_law_1147 : decode cL_law 1147 = .ok (.goto 457, 3) := DL_law_1141.2.2.2.2.1
theorem dL_law_1150 : decode cL_law 1150 = .ok (.aload_n 1, 1) := DL_law_1141.2.2.2.2.2.1
theorem dL_law_1151 : decode cL_law 1151 = .ok (.aload_n 0, 1) := DL_law_1141.2.2.2.2.2.2.1
theorem dL_law_1152 : decode cL_law 1152 = .ok (.iload 4, 2) := DL_law_1141.2.2.2.2.2.2.2.1
theorem dL_law_1154 : decode cL_law 1154 = .ok (.iconst 1, 1) := DL_law_1141.2.2.2.2.2.2.2.2.1
theorem dL_law_1155 : decode cL_law 1155 = .ok (.iadd, 1) := DL_law_1141.2.2.2.2.2.2.2.2.2.1
theorem dL_law_1156 : decode cL_law 1156 = .ok (.iaload, 1) := DL_law_1141.2.2.2.2.2.2.2.2.2.2.1
theorem dL_law_1157 : decode cL_law 1157 = .ok (.invokevirtual 138, 3) := DL_law_1141.2.2.2.2.2.2.2.2.2.2.2.1
theorem dL_law_1160 : decode cL_law 1160 = .ok (.pop, 1) := DL_law_1141.2.2.2.2.2.2.2.2.2.2.2.2.1
theorem dL_law_1161 : decode cL_law 1161 = .ok (.aload_n 2, 1) := DL_law_1141.2.2.2.2.2.2.2.2.2.2.2.2.2.1
theorem dL_law_1162 : decode cL_law 1162 = .ok (.aload_n 0, 1) := DL_law_1141.2.2.2.2.2.2.2.2.2.2.2.2.2.2.1
theorem dL_law_1163 : decode cL_law 1163 = .ok (.iload 4, 2) := DL_law_1141.2.2.2.2.2.2.2.2.2.2.2.2.2.2.2.1
theorem DL_law_1165 : dAre cL_law [(1165, .iconst 1, 1), (1166, .iadd, 1), (1167, .iaload, 1), (1168, .invokevirtual 141, 3), (1171, .pop, 1), (1172, .goto 432, 3), (1175, .aload_n 1, 1), (1176, .aload_n 0, 1), (1177, .iload 4, 2), (1179, .iconst 1, 1), (1180, .iadd, 1), (1181, .iaload, 1), (1182, .invokevirtual 142, 3), (1185, .pop, 1), (1186, .aload_n 2, 1), (1187, .aload_n 0, 1)] := dAre0 (by decide +kernel)
theorem dL_law_1165 : decode cL_law 1165 = .ok (.iconst 1, 1) := DL_law_1165.1
theorem dL_law_1166 : decode cL_law 1166 = .ok (.iadd, 1) := DL_law_1165.2.1
theorem dL_law_1167 : decode cL_law 1167 = .ok (.iaload, 1) := DL_law_1165.2.2.1
theorem dL_law_1168 : decode cL_law 1168 = .ok (.invokevirtual 141, 3) := DL_law_1165.2.2.2.1
theorem dL_law_1171 : decode cL_law 1171 = .ok (.pop, 1) := DL_law_1165.2.2.2.2.1
theorem dL_law_1172 : decode cL_law 1172 = .ok (.goto 432, 3) := DL_law_1165.2.2.2.2.2.1
theorem dL_law_1175 : decode cL_law 1175 = .ok (.aload_n 1, 1) := DL_law_1165.2.2.2.2.2.2.1
theorem dL_law_1176 : decode cL_law 1176 = .ok (.aload_n 0, 1) := DL_law_1165.2.2.2.2.2.2.2.1
theorem dL_law_1177 : decode cL_law 1177 = .ok (.iload 4, 2) := DL_law_1165.2.2.2.2.2.2.2.2.1
theorem dL_law_1179 : decode cL_law 1179 = .ok (.iconst 1, 1) := DL_law_1165.2.2.2.2.2.2.2.2.2.1
theorem dL_law_1180 : decode cL_law 1180 = .ok (.iadd, 1) := DL_law_1165.2.2.2.2.2.2.2.2.2.2.1
theorem dL_law_1181 : decode cL_law 1181 = .ok (.iaload, 1) := DL_law_1165.2.2.2.2.2.2.2.2.2.2.2.1
theorem dL_law_1182 : decode cL_law 1182 = .ok (.invokevirtual 142, 3) := DL_law_1165.2.2.2.2.2.2.2.2.2.2.2.2.1
theorem dL_law_1185 : decode cL_law 1185 = .ok (.pop, 1) := DL_law_1165.2.2.2.2.2.2.2.2.2.2.2.2.2.1
theorem dL_law_1186 : decode cL_law 1186 = .ok (.aload_n 2, 1) := DL_law_1165.2.2.2.2.2.2.2.2.2.2.2.2.2.2.1
theorem dL_law_1187 : decode cL_law 1187 = .ok (.aload_n 0, 1) := DL_law_1165.2.2.2.2.2.2.2.2.2.2.2.2.2.2.2.1
theorem DL_law_1188 : dAre cL_law [(1188, .iload 4, 2), (1190, .iconst 1, 1), (1191, .iadd, 1), (1192, .iaload, 1), (1193, .invokevirtual 145, 3), (1196, .pop, 1), (1197, .goto 407, 3), (1200, .aload_n 1, 1), (1201, .aload_n 0, 1), (1202, .iload 4, 2), (1204, .iconst 1, 1), (1205, .iadd, 1), (1206, .iaload, 1), (1207, .aload_n 0, 1), (1208, .iload 4, 2), (1210, .iconst 2, 1)] := dAre0 (by decide +kernel)
theorem dL_law_1188 : decode cL_law 1188 = .ok (.iload 4, 2) := DL_law_1188.1
theorem dL_law_1190 : decode cL_law 1190 = .ok (.iconst 1, 1) := DL_law_1188.2.1
theorem dL_law_1191 : decode cL_law 1191 = .ok (.iadd, 1) := DL_law_1188.2.2.1
theorem dL_law_1192 : decode cL_law 1192 = .ok (.iaload, 1) := DL_law_1188.2.2.2.1
theorem dL_law_1193 : decode cL_law 1193 = .ok (.invokevirtual 145, 3) := DL_law_1188.2.2.2.2.1
theorem dL_law_1196 : decode cL_law 1196 = .ok (.pop, 1) := DL_law_1188.2.2.2.2.2.1
theorem dL_law_1197 : decode cL_law 1197 = .ok (.goto 407, 3) := DL_law_1188.2.2.2.2.2.2.1
theorem dL_law_1200 : decode cL_law 1200 = .ok (.aload_n 1, 1) := DL_law_1188.2.2.2.2.2.2.2.1
theorem dL_law_1201 : decode cL_law 1201 = .ok (.aload_n 0, 1) := DL_law_1188.2.2.2.2.2.2.2.2.1
theorem dL_law_1202 : decode cL_law 1202 = .ok (.iload 4, 2) := DL_law_1188.2.2.2.2.2.2.2.2.2.1
theorem dL_law_1204 : decode cL_law 1204 = .ok (.iconst 1, 1) := DL_law_1188.2.2.2.2.2.2.2.2.2.2.1
theorem dL_law_1205 : decode cL_law 1205 = .ok (.iadd, 1) := DL_law_1188.2.2.2.2.2.2.2.2.2.2.2.1
theorem dL_law_1206 : decode cL_law 1206 = .ok (.iaload, 1) := DL_law_1188.2.2.2.2.2.2.2.2.2.2.2.2.1
theorem dL_law_1207 : decode cL_law 1207 = .ok (.aload_n 0, 1) := DL_law_1188.2.2.2.2.2.2.2.2.2.2.2.2.2.1
theorem dL_law_1208 : decode cL_law 1208 = .ok (.iload 4, 2) := DL_law_1188.2.2.2.2.2.2.2.2.2.2.2.2.2.2.1
theorem dL_law_1210 : decode cL_law 1210 = .ok (.iconst 2, 1) := DL_law_1188.2.2.2.2.2.2.2.2.2.2.2.2.2.2.2.1
theorem DL_law_1211 : dAre cL_law [(1211, .iadd, 1), (1212, .iaload, 1), (1213, .i2l, 1), (1214, .bipush 32, 2), (1216, .lshl, 1), (1217, .aload_n 0, 1), (1218, .iload 4, 2), (1220, .iconst 3, 1), (1221, .iadd, 1), (1222, .iaload, 1), (1223, .i2l, 1), (1224, .ldc2_w 146, 3), (1227, .land, 1), (1228, .lor, 1), (1229, .invokevirtual 148, 3), (1232, .pop, 1)] := dAre0 (by decide +kernel)
theorem dL_law_1211 : decode cL_law 1211 = .ok (.iadd, 1) := DL_law_1211.1
theorem dL_law_1212 : decode cL_law 1212 = .ok (.iaload, 1) := DL_law_1211.2.1
theorem dL_law_1213 : decode cL_law 1213 = .ok (.i2l, 1) := DL_law_1211.2.2.1
theorem dL_law_1214 : decode cL_law 1214 = .ok (.bipush 32, 2) := DL_law_1211.2.2.2.1
theorem dL_law_1216 : decode cL_law 1216 = .ok (.lshl, 1) := DL_law_1211.2.2.2.2.1
theorem dL_law_1217 : decode cL_law 1217 = .ok (.aload_n 0, 1) := DL_law_1211.2.2.2.2.2.1
theorem dL_law_1218 : decode cL_law 1218 = .ok (.iload 4, 2) := DL_law_1211.2.2.2.2.2.2.1
theorem dL_law_1220 : decode cL_law 1220 = .ok (.iconst 3, 1) := DL_law_1211.2.2.2.2.2.2.2.1
theorem dL_law_1221 : decode cL_law 1221 = .ok (.iadd, 1) := DL_law_1211.2.2.2.2.2.2.2.2.1
theorem dL_law_1222 : decode cL_law 1222 = .ok (.iaload, 1) := DL_law_1211.2.2.2.2.2.2.2.2.2.1
theorem dL_law_1223 : decode cL_law 1223 = .ok (.i2l, 1) := DL_law_1211.2.2.2.2.2.2.2.2.2.2.1
theorem dL_law_1224 : decode cL_law 1224 = .ok (.ldc2_w 146, 3) := DL_law_1211.2.2.2.2.2.2.2.2.2.2.2.1
theorem dL_law_1227 : decode cL_law 1227 = .ok (.land, 1) := DL_law_1211.2.2.2.2.2.2.2.2.2.2.2.2.1
theorem dL_law_1228 : decode cL_law 1228 = .ok (.lor, 1) := DL_law_1211.2.2.2.2.2.2.2.2.2.2.2.2.2.1
theorem dL_law_1229 : decode cL_law 1229 = .ok (.invokevirtual 148, 3) := DL_law_1211.2.2.2.2.2.2.2.2.2.2.2.2.2.2.1
theorem dL_law_1232 : decode cL_law 1232 = .ok (.pop, 1) := DL_law_1211.2.2.2.2.2.2.2.2.2.2.2.2.2.2.2.1
theorem DL_law_1233 : dAre cL_law [(1233, .aload_n 2, 1), (1234, .aload_n 0, 1), (1235, .iload 4, 2), (1237, .iconst 1, 1), (1238, .iadd, 1), (1239, .iaload, 1), (1240, .aload_n 0, 1), (1241, .iload 4, 2), (1243, .iconst 2, 1), (1244, .iadd, 1), (1245, .iaload, 1), (1246, .i2l, 1), (1247, .bipush 32, 2), (1249, .lshl, 1), (1250, .aload_n 0, 1), (1251, .iload 4, 2)] := dAre0 (by decide +kernel)
theorem dL_law_1233 : decode cL_law 1233 = .ok (.aload_n 2, 1) := DL_law_1233.1
theorem dL_law_1234 : decode cL_law 1234 = .ok (.aload_n 0, 1) := DL_law_1233.2.1
theorem dL_law_1235 : decode cL_law 1235 = .ok (.iload 4, 2) := DL_law_1233.2.2.1
theorem dL_law_1237 : decode cL_law 1237 = .ok (.iconst 1, 1) := DL_law_1233.2.2.2.1
theorem dL_law_1238 : decode cL_law 1238 = .ok (.iadd, 1) := DL_law_1233.2.2.2.2.1
theorem dL_law_1239 : decode cL_law 1239 = .ok (.iaload, 1) := DL_law_1233.2.2.2.2.2.1
theorem dL_law_1240 : decode cL_law 1240 = .ok (.aload_n 0, 1) := DL_law_1233.2.2.2.2.2.2.1
theorem dL_law_1241 : decode cL_law 1241 = .ok (.iload 4, 2) := DL_law_1233.2.2.2.2.2.2.2.1
theorem dL_law_1243 : decode cL_law 1243 = .ok (.iconst 2, 1) := DL_law_1233.2.2.2.2.2.2.2.2.1
theorem dL_law_1244 : decode cL_law 1244 = .ok (.iadd, 1) := DL_law_1233.2.2.2.2.2.2.2.2.2.1
theorem dL_law_1245 : decode cL_law 1245 = .ok (.iaload, 1) := DL_law_1233.2.2.2.2.2.2.2.2.2.2.1
theorem dL_law_1246 : decode cL_law 1246 = .ok (.i2l, 1) := DL_law_1233.2.2.2.2.2.2.2.2.2.2.2.1
theorem dL_law_1247 : decode cL_law 1247 = .ok (.bipush 32, 2) := DL_law_1233.2.2.2.2.2.2.2.2.2.2.2.2.1
theorem dL_law_1249 : decode cL_law 1249 = .ok (.lshl, 1) := DL_law_1233.2.2.2.2.2.2.2.2.2.2.2.2.2.1
theorem dL_law_1250 : decode cL_law 1250 = .ok (.aload_n 0, 1) := DL_law_1233.2.2.2.2.2.2.2.2.2.2.2.2.2.2.1
theorem dL_law_1251 : decode cL_law 1251 = .ok (.iload 4, 2) := DL_law_1233.2.2.2.2.2.2.2.2.2.2.2.2.2.2.2.1
theorem DL_law_1253 : dAre cL_law [(1253, .iconst 3, 1), (1254, .iadd, 1), (1255, .iaload, 1), (1256, .i2l, 1), (1257, .ldc2_w 146, 3), (1260, .land, 1), (1261, .lor, 1), (1262, .invokevirtual 152, 3), (1265, .pop, 1), (1266, .goto 338, 3), (1269, .aload_n 1, 1), (1270, .aload_n 0, 1), (1271, .iload 4, 2), (1273, .iconst 1, 1), (1274, .iadd, 1), (1275, .iaload, 1)] := dAre0 (by decide +kernel)
theorem dL_law_1253 : decode cL_law 1253 = .ok (.iconst 3, 1) := DL_law_1253.1
theorem dL_law_1254 : decode cL_law 1254 = .ok (.iadd, 1) := DL_law_1253.2.1
theorem dL_law_1255 : decode cL_law 1255 = .ok (.iaload, 1) := DL_law_1253.2.2.1
theorem dL_law_1256 : decode cL_law 1256 = .ok (.i2l, 1) := DL_law_1253.2.2.2.1
theorem dL_law_1257 : decode cL_law 1257 = .ok (.ldc2_w 146, 3) := DL_law_1253.2.2.2.2.1
theorem dL_law_1260 : decode cL_law 1260 = .ok (.land, 1) := DL_law_1253.2.2.2.2.2.1
theorem dL_law_1261 : decode cL_law 1261 = .ok (.lor, 1) := DL_law_1253.2.2.2.2.2.2.1
theorem dL_law_1262 : decode cL_law 1262 = .ok (.invokevirtual 152, 3) := DL_law_1253.2.2.2.2.2.2.2.1
theorem dL_law_1265 : decode cL_law 1265 = .ok (.pop, 1) := DL_law_1253.2.2.2.2.2.2.2.2.1
theorem dL_law_1266 : decode cL_law 1266 = .ok (.goto 338, 3) := DL_law_1253.2.2.2.2.2.2.2.2.2.1
theorem dL_law_1269 : decode cL_law 1269 = .ok (.aload_n 1, 1) := DL_law_1253.2.2.2.2.2.2.2.2.2.2.1
theorem dL_law_1270 : decode cL_law 1270 = .ok (.aload_n 0, 1) := DL_law_1253.2.2.2.2.2.2.2.2.2.2.2.1
theorem dL_law_1271 : decode cL_law 1271 = .ok (.iload 4, 2) := DL_law_1253.2.2.2.2.2.2.2.2.2.2.2.2.1
theorem dL_law_1273 : decode cL_law 1273 = .ok (.iconst 1, 1) := DL_law_1253.2.2.2.2.2.2.2.2.2.2.2.2.2.1
theorem dL_law_1274 : decode cL_law 1274 = .ok (.iadd, 1) := DL_law_1253.2.2.2.2.2.2.2.2.2.2.2.2.2.2.1
theorem dL_law_1275 : decode cL_law 1275 = .ok (.iaload, 1) := DL_law_1253.2.2.2.2.2.2.2.2.2.2.2.2.2.2.2.1
theorem DL_law_1276 : dAre cL_law [(1276, .invokevirtual 153, 3), (1279, .pop, 1), (1280, .aload_n 2, 1), (1281, .aload_n 0, 1), (1282, .iload 4, 2), (1284, .iconst 1, 1), (1285, .iadd, 1), (1286, .iaload, 1), (1287, .invokevirtual 156, 3), (1290, .pop, 1), (1291, .goto 313, 3), (1294, .aload_n 1, 1), (1295, .invokevirtual 157, 3), (1298, .pop, 1), (1299, .aload_n 2, 1), (1300, .invokevirtual 160, 3)] := dAre0 (by decide +kernel)
theorem dL_law_1276 : decode cL_law 1276 = .ok (.invokevirtual 153, 3) := DL_law_1276.1
theorem dL_law_1279 : decode cL_law 1279 = .ok (.pop, 1) := DL_law_1276.2.1
theorem dL_law_1280 : decode cL_law 1280 = .ok (.aload_n 2, 1) := DL_law_1276.2.2.1
theorem dL_law_1281 : decode cL_law 1281 = .ok (.aload_n 0, 1) := DL_law_1276.2.2.2.1
theorem dL_law_1282 : decode cL_law 1282 = .ok (.iload 4, 2) := DL_law_1276.2.2.2.2.1
theorem dL_law_1284 : decode cL_law 1284 = .ok (.iconst 1, 1) := DL_law_1276.2.2.2.2.2.1
theorem dL_law_1285 : decode cL_law 1285 = .ok (.iadd, 1) := DL_law_1276.2.2.2.2.2.2.1
theorem dL_law_1286 : decode cL_law 1286 = .ok (.iaload, 1) := DL_law_1276.2.2.2.2.2.2.2.1
theorem dL_law_1287 : decode cL_law 1287 = .ok (.invokevirtual 156, 3) := DL_law_1276.2.2.2.2.2.2.2.2.1
theorem dL_law_1290 : decode cL_law 1290 = .ok (.pop, 1) := DL_law_1276.2.2.2.2.2.2.2.2.2.1
theorem dL_law_1291 : decode cL_law 1291 = .ok (.goto 313, 3) := DL_law_1276.2.2.2.2.2.2.2.2.2.2.1
theorem dL_law_1294 : decode cL_law 1294 = .ok (.aload_n 1, 1) := DL_law_1276.2.2.2.2.2.2.2.2.2.2.2.1
theorem dL_law_1295 : decode cL_law 1295 = .ok (.invokevirtual 157, 3) := DL_law_1276.2.2.2.2.2.2.2.2.2.2.2.2.1
theorem dL_law_1298 : decode cL_law 1298 = .ok (.pop, 1) := DL_law_1276.2.2.2.2.2.2.2.2.2.2.2.2.2.1
theorem dL_law_1299 : decode cL_law 1299 = .ok (.aload_n 2, 1) := DL_law_1276.2.2.2.2.2.2.2.2.2.2.2.2.2.2.1
theorem dL_law_1300 : decode cL_law 1300 = .ok (.invokevirtual 160, 3) := DL_law_1276.2.2.2.2.2.2.2.2.2.2.2.2.2.2.2.1
theorem DL_law_1303 : dAre cL_law [(1303, .pop, 1), (1304, .goto 300, 3), (1307, .aload_n 1, 1), (1308, .aload_n 0, 1), (1309, .iload 4, 2), (1311, .iconst 1, 1), (1312, .iadd, 1), (1313, .iaload, 1), (1314, .aload_n 0, 1), (1315, .iload 4, 2), (1317, .iconst 2, 1), (1318, .iadd, 1), (1319, .iaload, 1), (1320, .invokevirtual 161, 3), (1323, .pop, 1), (1324, .aload_n 2, 1)] := dAre0 (by decide +kernel)
theorem dL_law_1303 : decode cL_law 1303 = .ok (.pop, 1) := DL_law_1303.1
theorem dL_law_1304 : decode cL_law 1304 = .ok (.goto 300, 3) := DL_law_1303.2.1
theorem dL_law_1307 : decode cL_law 1307 = .ok (.aload_n 1, 1) := DL_law_1303.2.2.1
theorem dL_law_1308 : decode cL_law 1308 = .ok (.aload_n 0, 1) := DL_law_1303.2.2.2.1
theorem dL_law_1309 : decode cL_law 1309 = .ok (.iload 4, 2) := DL_law_1303.2.2.2.2.1
theorem dL_law_1311 : decode cL_law 1311 = .ok (.iconst 1, 1) := DL_law_1303.2.2.2.2.2.1
theorem dL_law_1312 : decode cL_law 1312 = .ok (.iadd, 1) := DL_law_1303.2.2.2.2.2.2.1
theorem dL_law_1313 : decode cL_law 1313 = .ok (.iaload, 1) := DL_law_1303.2.2.2.2.2.2.2.1
theorem dL_law_1314 : decode cL_law 1314 = .ok (.aload_n 0, 1) := DL_law_1303.2.2.2.2.2.2.2.2.1
theorem dL_law_1315 : decode cL_law 1315 = .ok (.iload 4, 2) := DL_law_1303.2.2.2.2.2.2.2.2.2.1
theorem dL_law_1317 : decode cL_law 1317 = .ok (.iconst 2, 1) := DL_law_1303.2.2.2.2.2.2.2.2.2.2.1
theorem dL_law_1318 : decode cL_law 1318 = .ok (.iadd, 1) := DL_law_1303.2.2.2.2.2.2.2.2.2.2.2.1
theorem dL_law_1319 : decode cL_law 1319 = .ok (.iaload, 1) := DL_law_1303.2.2.2.2.2.2.2.2.2.2.2.2.1
theorem dL_law_1320 : decode cL_law 1320 = .ok (.invokevirtual 161, 3) := DL_law_1303.2.2.2.2.2.2.2.2.2.2.2.2.2.1
theorem dL_law_1323 : decode cL_law 1323 = .ok (.pop, 1) := DL_law_1303.2.2.2.2.2.2.2.2.2.2.2.2.2.2.1
theorem dL_law_1324 : decode cL_law 1324 = .ok (.aload_n 2, 1) := DL_law_1303.2.2.2.2.2.2.2.2.2.2.2.2.2.2.2.1
theorem DL_law_1325 : dAre cL_law [(1325, .aload_n 0, 1), (1326, .iload 4, 2), (1328, .iconst 1, 1), (1329, .iadd, 1), (1330, .iaload, 1), (1331, .aload_n 0, 1), (1332, .iload 4, 2), (1334, .iconst 2, 1), (1335, .iadd, 1), (1336, .iaload, 1), (1337, .invokevirtual 164, 3), (1340, .pop, 1), (1341, .goto 263, 3), (1344, .aload_n 1, 1), (1345, .aload_n 0, 1), (1346, .iload 4, 2)] := dAre0 (by decide +kernel)
theorem dL_law_1325 : decode cL_law 1325 = .ok (.aload_n 0, 1) := DL_law_1325.1
theorem dL_law_1326 : decode cL_law 1326 = .ok (.iload 4, 2) := DL_law_1325.2.1
theorem dL_law_1328 : decode cL_law 1328 = .ok (.iconst 1, 1) := DL_law_1325.2.2.1
theorem dL_law_1329 : decode cL_law 1329 = .ok (.iadd, 1) := DL_law_1325.2.2.2.1
theorem dL_law_1330 : decode cL_law 1330 = .ok (.iaload, 1) := DL_law_1325.2.2.2.2.1
theorem dL_law_1331 : decode cL_law 1331 = .ok (.aload_n 0, 1) := DL_law_1325.2.2.2.2.2.1
theorem dL_law_1332 : decode cL_law 1332 = .ok (.iload 4, 2) := DL_law_1325.2.2.2.2.2.2.1
theorem dL_law_1334 : decode cL_law 1334 = .ok (.iconst 2, 1) := DL_law_1325.2.2.2.2.2.2.2.1
theorem dL_law_1335 : decode cL_law 1335 = .ok (.iadd, 1) := DL_law_1325.2.2.2.2.2.2.2.2.1
theorem dL_law_1336 : decode cL_law 1336 = .ok (.iaload, 1) := DL_law_1325.2.2.2.2.2.2.2.2.2.1
theorem dL_law_1337 : decode cL_law 1337 = .ok (.invokevirtual 164, 3) := DL_law_1325.2.2.2.2.2.2.2.2.2.2.1
theorem dL_law_1340 : decode cL_law 1340 = .ok (.pop, 1) := DL_law_1325.2.2.2.2.2.2.2.2.2.2.2.1
theorem dL_law_1341 : decode cL_law 1341 = .ok (.goto 263, 3) := DL_law_1325.2.2.2.2.2.2.2.2.2.2.2.2.1
theorem dL_law_1344 : decode cL_law 1344 = .ok (.aload_n 1, 1) := DL_law_1325.2.2.2.2.2.2.2.2.2.2.2.2.2.1
theorem dL_law_1345 : decode cL_law 1345 = .ok (.aload_n 0, 1) := DL_law_1325.2.2.2.2.2.2.2.2.2.2.2.2.2.2.1
theorem dL_law_1346 : decode cL_law 1346 = .ok (.iload 4, 2) := DL_law_1325.2.2.2.2.2.2.2.2.2.2.2.2.2.2.2.1
theorem DL_law_1348 : dAre cL_law [(1348, .iconst 1, 1), (1349, .iadd, 1), (1350, .iaload, 1), (1351, .aload_n 0, 1), (1352, .iload 4, 2), (1354, .iconst 2, 1), (1355, .iadd, 1), (1356, .iaload, 1), (1357, .aload_n 0, 1), (1358, .iload 4, 2), (1360, .iconst 3, 1), (1361, .iadd, 1), (1362, .iaload, 1), (1363, .aload_n 0, 1), (1364, .iload 4, 2), (1366, .iconst 4, 1)] := dAre0 (by decide +kernel)
theorem dL_law_1348 : decode cL_law 1348 = .ok (.iconst 1, 1) := DL_law_1348.1
theorem dL_law_1349 : decode cL_law 1349 = .ok (.iadd, 1) := DL_law_1348.2.1
theorem dL_law_1350 : decode cL_law 1350 = .ok (.iaload, 1) := DL_law_1348.2.2.1
theorem dL_law_1351 : decode cL_law 1351 = .ok (.aload_n 0, 1) := DL_law_1348.2.2.2.1
theorem dL_law_1352 : decode cL_law 1352 = .ok (.iload 4, 2) := DL_law_1348.2.2.2.2.1
theorem dL_law_1354 : decode cL_law 1354 = .ok (.iconst 2, 1) := DL_law_1348.2.2.2.2.2.1
theorem dL_law_1355 : decode cL_law 1355 = .ok (.iadd, 1) := DL_law_1348.2.2.2.2.2.2.1
theorem dL_law_1356 : decode cL_law 1356 = .ok (.iaload, 1) := DL_law_1348.2.2.2.2.2.2.2.1
theorem dL_law_1357 : decode cL_law 1357 = .ok (.aload_n 0, 1) := DL_law_1348.2.2.2.2.2.2.2.2.1
theorem dL_law_1358 : decode cL_law 1358 = .ok (.iload 4, 2) := DL_law_1348.2.2.2.2.2.2.2.2.2.1
theorem dL_law_1360 : decode cL_law 1360 = .ok (.iconst 3, 1) := DL_law_1348.2.2.2.2.2.2.2.2.2.2.1
theorem dL_law_1361 : decode cL_law 1361 = .ok (.iadd, 1) := DL_law_1348.2.2.2.2.2.2.2.2.2.2.2.1
theorem dL_law_1362 : decode cL_law 1362 = .ok (.iaload, 1) := DL_law_1348.2.2.2.2.2.2.2.2.2.2.2.2.1
theorem dL_law_1363 : decode cL_law 1363 = .ok (.aload_n 0, 1) := DL_law_1348.2.2.2.2.2.2.2.2.2.2.2.2.2.1
theorem dL_law_1364 : decode cL_law 1364 = .ok (.iload 4, 2) := DL_law_1348.2.2.2.2.2.2.2.2.2.2.2.2.2.2.1
theorem dL_law_1366 : decode cL_law 1366 = .ok (.iconst 4, 1) := DL_law_1348.2.2.2.2.2.2.2.2.2.2.2.2.2.2.2.1
theorem DL_law_1367 : dAre cL_law [(1367, .iadd, 1), (1368, .iaload, 1), (1369, .aload_n 0, 1), (1370, .iload 4, 2), (1372, .iconst 5, 1), (1373, .iadd, 1), (1374, .iaload, 1), (1375, .invokevirtual 165, 3), (1378, .pop, 1), (1379, .aload_n 2, 1), (1380, .aload_n 0, 1), (1381, .iload 4, 2), (1383, .iconst 1, 1), (1384, .iadd, 1), (1385, .iaload, 1), (1386, .aload_n 0, 1)] := dAre0 (by decide +kernel)
theorem dL_law_1367 : decode cL_law 1367 = .ok (.iadd, 1) := DL_law_1367.1
theorem dL_law_1368 : decode cL_law 1368 = .ok (.iaload, 1) := DL_law_1367.2.1
theorem dL_law_1369 : decode cL_law 1369 = .ok (.aload_n 0, 1) := DL_law_1367.2.2.1
theorem dL_law_1370 : decode cL_law 1370 = .ok (.iload 4, 2) := DL_law_1367.2.2.2.1
theorem dL_law_1372 : decode cL_law 1372 = .ok (.iconst 5, 1) := DL_law_1367.2.2.2.2.1
theorem dL_law_1373 : decode cL_law 1373 = .ok (.iadd, 1) := DL_law_1367.2.2.2.2.2.1
theorem dL_law_1374 : decode cL_law 1374 = .ok (.iaload, 1) := DL_law_1367.2.2.2.2.2.2.1
theorem dL_law_1375 : decode cL_law 1375 = .ok (.invokevirtual 165, 3) := DL_law_1367.2.2.2.2.2.2.2.1
theorem dL_law_1378 : decode cL_law 1378 = .ok (.pop, 1) := DL_law_1367.2.2.2.2.2.2.2.2.1
theorem dL_law_1379 : decode cL_law 1379 = .ok (.aload_n 2, 1) := DL_law_1367.2.2.2.2.2.2.2.2.2.1
theorem dL_law_1380 : decode cL_law 1380 = .ok (.aload_n 0, 1) := DL_law_1367.2.2.2.2.2.2.2.2.2.2.1
theorem dL_law_1381 : decode cL_law 1381 = .ok (.iload 4, 2) := DL_law_1367.2.2.2.2.2.2.2.2.2.2.2.1
theorem dL_law_1383 : decode cL_law 1383 = .ok (.iconst 1, 1) := DL_law_1367.2.2.2.2.2.2.2.2.2.2.2.2.1
theorem dL_law_1384 : decode cL_law 1384 = .ok (.iadd, 1) := DL_law_1367.2.2.2.2.2.2.2.2.2.2.2.2.2.1
theorem dL_law_1385 : decode cL_law 1385 = .ok (.iaload, 1) := DL_law_1367.2.2.2.2.2.2.2.2.2.2.2.2.2.2.1
theorem dL_law_1386 : decode cL_law 1386 = .ok (.aload_n 0, 1) := DL_law_1367.2.2.2.2.2.2.2.2.2.2.2.2.2.2.2.1
theorem DL_law_1387 : dAre cL_law [(1387, .iload 4, 2), (1389, .iconst 2, 1), (1390, .iadd, 1), (1391, .iaload, 1), (1392, .aload_n 0, 1), (1393, .iload 4, 2), (1395, .iconst 3, 1), (1396, .iadd, 1), (1397, .iaload, 1), (1398, .aload_n 0, 1), (1399, .iload 4, 2), (1401, .iconst 4, 1), (1402, .iadd, 1), (1403, .iaload, 1), (1404, .aload_n 0, 1), (1405, .iload 4, 2)] := dAre0 (by decide +kernel)
theorem dL_law_1387 : decode cL_law 1387 = .ok (.iload 4, 2) := DL_law_1387.1
theorem dL_law_1389 : decode cL_law 1389 = .ok (.iconst 2, 1) := DL_law_1387.2.1
theorem dL_law_1390 : decode cL_law 1390 = .ok (.iadd, 1) := DL_law_1387.2.2.1
theorem dL_law_1391 : decode cL_law 1391 = .ok (.iaload, 1) := DL_law_1387.2.2.2.1
theorem dL_law_1392 : decode cL_law 1392 = .ok (.aload_n 0, 1) := DL_law_1387.2.2.2.2.1
theorem dL_law_1393 : decode cL_law 1393 = .ok (.iload 4, 2) := DL_law_1387.2.2.2.2.2.1
theorem dL_law_1395 : decode cL_law 1395 = .ok (.iconst 3, 1) := DL_law_1387.2.2.2.2.2.2.1
theorem dL_law_1396 : decode cL_law 1396 = .ok (.iadd, 1) := DL_law_1387.2.2.2.2.2.2.2.1
theorem dL_law_1397 : decode cL_law 1397 = .ok (.iaload, 1) := DL_law_1387.2.2.2.2.2.2.2.2.1
theorem dL_law_1398 : decode cL_law 1398 = .ok (.aload_n 0, 1) := DL_law_1387.2.2.2.2.2.2.2.2.2.1
theorem dL_law_1399 : decode cL_law 1399 = .ok (.iload 4, 2) := DL_law_1387.2.2.2.2.2.2.2.2.2.2.1
theorem dL_law_1401 : decode cL_law 1401 = .ok (.iconst 4, 1) := DL_law_1387.2.2.2.2.2.2.2.2.2.2.2.1
theorem dL_law_1402 : decode cL_law 1402 = .ok (.iadd, 1) := DL_law_1387.2.2.2.2.2.2.2.2.2.2.2.2.1
theorem dL_law_1403 : decode cL_law 1403 = .ok (.iaload, 1) := DL_law_1387.2.2.2.2.2.2.2.2.2.2.2.2.2.1
theorem dL_law_1404 : decode cL_law 1404 = .ok (.aload_n 0, 1) := DL_law_1387.2.2.2.2.2.2.2.2.2.2.2.2.2.2.1
theorem dL_law_1405 : decode cL_law 1405 = .ok (.iload 4, 2) := DL_law_1387.2.2.2.2.2.2.2.2.2.2.2.2.2.2.2.1
theorem DL_law_1407 : dAre cL_law [(1407, .iconst 5, 1), (1408, .iadd, 1), (1409, .iaload, 1), (1410, .invokevirtual 168, 3), (1413, .pop, 1), (1414, .goto 190, 3), (1417, .aload_n 1, 1), (1418, .aload_n 0, 1), (1419, .iload 4, 2), (1421, .iconst 1, 1), (1422, .iadd, 1), (1423, .iaload, 1), (1424, .aload_n 0, 1), (1425, .iload 4, 2), (1427, .iconst 2, 1), (1428, .iadd, 1)] := dAre0 (by decide +kernel)
theorem dL_law_1407 : decode cL_law 1407 = .ok (.iconst 5, 1) := DL_law_1407.1
theorem dL_law_1408 : decode cL_law 1408 = .ok (.iadd, 1) := DL_law_1407.2.1
theorem dL_law_1409 : decode cL_law 1409 = .ok (.iaload, 1) := DL_law_1407.2.2.1
theorem dL_law_1410 : decode cL_law 1410 = .ok (.invokevirtual 168, 3) := DL_law_1407.2.2.2.1
theorem dL_law_1413 : decode cL_law 1413 = .ok (.pop, 1) := DL_law_1407.2.2.2.2.1
theorem dL_law_1414 : decode cL_law 1414 = .ok (.goto 190, 3) := DL_law_1407.2.2.2.2.2.1
theorem dL_law_1417 : decode cL_law 1417 = .ok (.aload_n 1, 1) := DL_law_1407.2.2.2.2.2.2.1
theorem dL_law_1418 : decode cL_law 1418 = .ok (.aload_n 0, 1) := DL_law_1407.2.2.2.2.2.2.2.1
theorem dL_law_1419 : decode cL_law 1419 = .ok (.iload 4, 2) := DL_law_1407.2.2.2.2.2.2.2.2.1
theorem dL_law_1421 : decode cL_law 1421 = .ok (.iconst 1, 1) := DL_law_1407.2.2.2.2.2.2.2.2.2.1
theorem dL_law_1422 : decode cL_law 1422 = .ok (.iadd, 1) := DL_law_1407.2.2.2.2.2.2.2.2.2.2.1
theorem dL_law_1423 : decode cL_law 1423 = .ok (.iaload, 1) := DL_law_1407.2.2.2.2.2.2.2.2.2.2.2.1
theorem dL_law_1424 : decode cL_law 1424 = .ok (.aload_n 0, 1) := DL_law_1407.2.2.2.2.2.2.2.2.2.2.2.2.1
theorem dL_law_1425 : decode cL_law 1425 = .ok (.iload 4, 2) := DL_law_1407.2.2.2.2.2.2.2.2.2.2.2.2.2.1
theorem dL_law_1427 : decode cL_law 1427 = .ok (.iconst 2, 1) := DL_law_1407.2.2.2.2.2.2.2.2.2.2.2.2.2.2.1
theorem dL_law_1428 : decode cL_law 1428 = .ok (.iadd, 1) := DL_law_1407.2.2.2.2.2.2.2.2.2.2.2.2.2.2.2.1
theorem DL_law_1429 : dAre cL_law [(1429, .iaload, 1), (1430, .aload_n 0, 1), (1431, .iload 4, 2), (1433, .iconst 3, 1), (1434, .iadd, 1), (1435, .iaload, 1), (1436, .invokevirtual 169, 3), (1439, .pop, 1), (1440, .aload_n 2, 1), (1441, .aload_n 0, 1), (1442, .iload 4, 2), (1444, .iconst 1, 1), (1445, .iadd, 1), (1446, .iaload, 1), (1447, .aload_n 0, 1), (1448, .iload 4, 2)] := dAre0 (by decide +kernel)
theorem dL_law_1429 : decode cL_law 1429 = .ok (.iaload, 1) := DL_law_1429.1
theorem dL_law_1430 : decode cL_law 1430 = .ok (.aload_n 0, 1) := DL_law_1429.2.1
theorem dL_law_1431 : decode cL_law 1431 = .ok (.iload 4, 2) := DL_law_1429.2.2.1
theorem dL_law_1433 : decode cL_law 1433 = .ok (.iconst 3, 1) := DL_law_1429.2.2.2.1
theorem dL_law_1434 : decode cL_law 1434 = .ok (.iadd, 1) := DL_law_1429.2.2.2.2.1
theorem dL_law_1435 : decode cL_law 1435 = .ok (.iaload, 1) := DL_law_1429.2.2.2.2.2.1
theorem dL_law_1436 : decode cL_law 1436 = .ok (.invokevirtual 169, 3) := DL_law_1429.2.2.2.2.2.2.1
theorem dL_law_1439 : decode cL_law 1439 = .ok (.pop, 1) := DL_law_1429.2.2.2.2.2.2.2.1
theorem dL_law_1440 : decode cL_law 1440 = .ok (.aload_n 2, 1) := DL_law_1429.2.2.2.2.2.2.2.2.1
theorem dL_law_1441 : decode cL_law 1441 = .ok (.aload_n 0, 1) := DL_law_1429.2.2.2.2.2.2.2.2.2.1
theorem dL_law_1442 : decode cL_law 1442 = .ok (.iload 4, 2) := DL_law_1429.2.2.2.2.2.2.2.2.2.2.1
theorem dL_law_1444 : decode cL_law 1444 = .ok (.iconst 1, 1) := DL_law_1429.2.2.2.2.2.2.2.2.2.2.2.1
theorem dL_law_1445 : decode cL_law 1445 = .ok (.iadd, 1) := DL_law_1429.2.2.2.2.2.2.2.2.2.2.2.2.1
theorem dL_law_1446 : decode cL_law 1446 = .ok (.iaload, 1) := DL_law_1429.2.2.2.2.2.2.2.2.2.2.2.2.2.1
theorem dL_law_1447 : decode cL_law 1447 = .ok (.aload_n 0, 1) := DL_law_1429.2.2.2.2.2.2.2.2.2.2.2.2.2.2.1
theorem dL_law_1448 : decode cL_law 1448 = .ok (.iload 4, 2) := DL_law_1429.2.2.2.2.2.2.2.2.2.2.2.2.2.2.2.1
theorem DL_law_1450 : dAre cL_law [(1450, .iconst 2, 1), (1451, .iadd, 1), (1452, .iaload, 1), (1453, .aload_n 0, 1), (1454, .iload 4, 2), (1456, .iconst 3, 1), (1457, .iadd, 1), (1458, .iaload, 1), (1459, .invokevirtual 172, 3), (1462, .pop, 1), (1463, .goto 141, 3), (1466, .aload_n 1, 1), (1467, .aload_n 0, 1), (1468, .iload 4, 2), (1470, .iconst 1, 1), (1471, .iadd, 1)] := dAre0 (by decide +kernel)
theorem dL_law_1450 : decode cL_law 1450 = .ok (.iconst 2, 1) := DL_law_1450.1
theorem dL_law_1451 : decode cL_law 1451 = .ok (.iadd, 1) := DL_law_1450.2.1
theorem dL_law_1452 : decode cL_law 1452 = .ok (.iaload, 1) := DL_law_1450.2.2.1
theorem dL_law_1453 : decode cL_law 1453 = .ok (.aload_n 0, 1) := DL_law_1450.2.2.2.1
theorem dL_law_1454 : decode cL_law 1454 = .ok (.iload 4, 2) := DL_law_1450.2.2.2.2.1
theorem dL_law_1456 : decode cL_law 1456 = .ok (.iconst 3, 1) := DL_law_1450.2.2.2.2.2.1
theorem dL_law_1457 : decode cL_law 1457 = .ok (.iadd, 1) := DL_law_1450.2.2.2.2.2.2.1
theorem dL_law_1458 : decode cL_law 1458 = .ok (.iaload, 1) := DL_law_1450.2.2.2.2.2.2.2.1
theorem dL_law_1459 : decode cL_law 1459 = .ok (.invokevirtual 172, 3) := DL_law_1450.2.2.2.2.2.2.2.2.1
theorem dL_law_1462 : decode cL_law 1462 = .ok (.pop, 1) := DL_law_1450.2.2.2.2.2.2.2.2.2.1
theorem dL_law_1463 : decode cL_law 1463 = .ok (.goto 141, 3) := DL_law_1450.2.2.2.2.2.2.2.2.2.2.1
theorem dL_law_1466 : decode cL_law 1466 = .ok (.aload_n 1, 1) := DL_law_1450.2.2.2.2.2.2.2.2.2.2.2.1
theorem dL_law_1467 : decode cL_law 1467 = .ok (.aload_n 0, 1) := DL_law_1450.2.2.2.2.2.2.2.2.2.2.2.2.1
theorem dL_law_1468 : decode cL_law 1468 = .ok (.iload 4, 2) := DL_law_1450.2.2.2.2.2.2.2.2.2.2.2.2.2.1
theorem dL_law_1470 : decode cL_law 1470 = .ok (.iconst 1, 1) := DL_law_1450.2.2.2.2.2.2.2.2.2.2.2.2.2.2.1
theorem dL_law_1471 : decode cL_law 1471 = .ok (.iadd, 1) := DL_law_1450.2.2.2.2.2.2.2.2.2.2.2.2.2.2.2.1
theorem DL_law_1472 : dAre cL_law [(1472, .iaload, 1), (1473, .aload_n 0, 1), (1474, .iload 4, 2), (1476, .iconst 2, 1), (1477, .iadd, 1), (1478, .iaload, 1), (1479, .invokevirtual 173, 3), (1482, .pop, 1), (1483, .aload_n 2, 1), (1484, .aload_n 0, 1), (1485, .iload 4, 2), (1487, .iconst 1, 1), (1488, .iadd, 1), (1489, .iaload, 1), (1490, .aload_n 0, 1), (1491, .iload 4, 2)] := dAre0 (by decide +kernel)
theorem dL_law_1472 : decode cL_law 1472 = .ok (.iaload, 1) := DL_law_1472.1
theorem dL_law_1473 : decode cL_law 1473 = .ok (.aload_n 0, 1) := DL_law_1472.2.1
theorem dL_law_1474 : decode cL_law 1474 = .ok (.iload 4, 2) := DL_law_1472.2.2.1
theorem dL_law_1476 : decode cL_law 1476 = .ok (.iconst 2, 1) := DL_law_1472.2.2.2.1
theorem dL_law_1477 : decode cL_law 1477 = .ok (.iadd, 1) := DL_law_1472.2.2.2.2.1
theorem dL_law_1478 : decode cL_law 1478 = .ok (.iaload, 1) := DL_law_1472.2.2.2.2.2.1
theorem dL_law_1479 : decode cL_law 1479 = .ok (.invokevirtual 173, 3) := DL_law_1472.2.2.2.2.2.2.1
theorem dL_law_1482 : decode cL_law 1482 = .ok (.pop, 1) := DL_law_1472.2.2.2.2.2.2.2.1
theorem dL_law_1483 : decode cL_law 1483 = .ok (.aload_n 2, 1) := DL_law_1472.2.2.2.2.2.2.2.2.1
theorem dL_law_1484 : decode cL_law 1484 = .ok (.aload_n 0, 1) := DL_law_1472.2.2.2.2.2.2.2.2.2.1
theorem dL_law_1485 : decode cL_law 1485 = .ok (.iload 4, 2) := DL_law_1472.2.2.2.2.2.2.2.2.2.2.1
theorem dL_law_1487 : decode cL_law 1487 = .ok (.iconst 1, 1) := DL_law_1472.2.2.2.2.2.2.2.2.2.2.2.1
theorem dL_law_1488 : decode cL_law 1488 = .ok (.iadd, 1) := DL_law_1472.2.2.2.2.2.2.2.2.2.2.2.2.1
theorem dL_law_1489 : decode cL_law 1489 = .ok (.iaload, 1) := DL_law_1472.2.2.2.2.2.2.2.2.2.2.2.2.2.1
theorem dL_law_1490 : decode cL_law 1490 = .ok (.aload_n 0, 1) := DL_law_1472.2.2.2.2.2.2.2.2.2.2.2.2.2.2.1
theorem dL_law_1491 : decode cL_law 1491 = .ok (.iload 4, 2) := DL_law_1472.2.2.2.2.2.2.2.2.2.2.2.2.2.2.2.1
theorem DL_law_1493 : dAre cL_law [(1493, .iconst 2, 1), (1494, .iadd, 1), (1495, .iaload, 1), (1496, .invokevirtual 176, 3), (1499, .pop, 1), (1500, .goto 104, 3), (1503, .aload_n 1, 1), (1504, .aload_n 0, 1), (1505, .iload 4, 2), (1507, .iconst 1, 1), (1508, .iadd, 1), (1509, .iaload, 1), (1510, .invokevirtual 177, 3), (1513, .pop, 1), (1514, .aload_n 2, 1), (1515, .aload_n 0, 1)] := dAre0 (by decide +kernel)
theorem dL_law_1493 : decode cL_law 1493 = .ok (.iconst 2, 1) := DL_law_1493.1
theorem dL_law_1494 : decode cL_law 1494 = .ok (.iadd, 1) := DL_law_1493.2.1
theorem dL_law_1495 : decode cL_law 1495 = .ok (.iaload, 1) := DL_law_1493.2.2.1
theorem dL_law_1496 : decode cL_law 1496 = .ok (.invokevirtual 176, 3) := DL_law_1493.2.2.2.1
theorem dL_law_1499 : decode cL_law 1499 = .ok (.pop, 1) := DL_law_1493.2.2.2.2.1
theorem dL_law_1500 : decode cL_law 1500 = .ok (.goto 104, 3) := DL_law_1493.2.2.2.2.2.1
theorem dL_law_1503 : decode cL_law 1503 = .ok (.aload_n 1, 1) := DL_law_1493.2.2.2.2.2.2.1
theorem dL_law_1504 : decode cL_law 1504 = .ok (.aload_n 0, 1) := DL_law_1493.2.2.2.2.2.2.2.1
theorem dL_law_1505 : decode cL_law 1505 = .ok (.iload 4, 2) := DL_law_1493.2.2.2.2.2.2.2.2.1
theorem dL_law_1507 : decode cL_law 1507 = .ok (.iconst 1, 1) := DL_law_1493.2.2.2.2.2.2.2.2.2.1
theorem dL_law_1508 : decode cL_law 1508 = .ok (.iadd, 1) := DL_law_1493.2.2.2.2.2.2.2.2.2.2.1
theorem dL_law_1509 : decode cL_law 1509 = .ok (.iaload, 1) := DL_law_1493.2.2.2.2.2.2.2.2.2.2.2.1
theorem dL_law_1510 : decode cL_law 1510 = .ok (.invokevirtual 177, 3) := DL_law_1493.2.2.2.2.2.2.2.2.2.2.2.2.1
theorem dL_law_1513 : decode cL_law 1513 = .ok (.pop, 1) := DL_law_1493.2.2.2.2.2.2.2.2.2.2.2.2.2.1
theorem dL_law_1514 : decode cL_law 1514 = .ok (.aload_n 2, 1) := DL_law_1493.2.2.2.2.2.2.2.2.2.2.2.2.2.2.1
theorem dL_law_1515 : decode cL_law 1515 = .ok (.aload_n 0, 1) := DL_law_1493.2.2.2.2.2.2.2.2.2.2.2.2.2.2.2.1
theorem DL_law_1516 : dAre cL_law [(1516, .iload 4, 2), (1518, .iconst 1, 1), (1519, .iadd, 1), (1520, .iaload, 1), (1521, .invokevirtual 180, 3), (1524, .pop, 1), (1525, .goto 79, 3), (1528, .aload_n 1, 1), (1529, .aload_n 0, 1), (1530, .iload 4, 2), (1532, .iconst 1, 1), (1533, .iadd, 1), (1534, .iaload, 1), (1535, .invokevirtual 181, 3), (1538, .pop, 1), (1539, .aload_n 2, 1)] := dAre0 (by decide +kernel)
theorem dL_law_1516 : decode cL_law 1516 = .ok (.iload 4, 2) := DL_law_1516.1
theorem dL_law_1518 : decode cL_law 1518 = .ok (.iconst 1, 1) := DL_law_1516.2.1
theorem dL_law_1519 : decode cL_law 1519 = .ok (.iadd, 1) := DL_law_1516.2.2.1
theorem dL_law_1520 : decode cL_law 1520 = .ok (.iaload, 1) := DL_law_1516.2.2.2.1
theorem dL_law_1521 : decode cL_law 1521 = .ok (.invokevirtual 180, 3) := DL_law_1516.2.2.2.2.1
theorem dL_law_1524 : decode cL_law 1524 = .ok (.pop, 1) := DL_law_1516.2.2.2.2.2.1
theorem dL_law_1525 : decode cL_law 1525 = .ok (.goto 79, 3) := DL_law_1516.2.2.2.2.2.2.1
theorem dL_law_1528 : decode cL_law 1528 = .ok (.aload_n 1, 1) := DL_law_1516.2.2.2.2.2.2.2.1
theorem dL_law_1529 : decode cL_law 1529 = .ok (.aload_n 0, 1) := DL_law_1516.2.2.2.2.2.2.2.2.1
theorem dL_law_1530 : decode cL_law 1530 = .ok (.iload 4, 2) := DL_law_1516.2.2.2.2.2.2.2.2.2.1
theorem dL_law_1532 : decode cL_law 1532 = .ok (.iconst 1, 1) := DL_law_1516.2.2.2.2.2.2.2.2.2.2.1
theorem dL_law_1533 : decode cL_law 1533 = .ok (.iadd, 1) := DL_law_1516.2.2.2.2.2.2.2.2.2.2.2.1
theorem dL_law_1534 : decode cL_law 1534 = .ok (.iaload, 1) := DL_law_1516.2.2.2.2.2.2.2.2.2.2.2.2.1
theorem dL_law_1535 : decode cL_law 1535 = .ok (.invokevirtual 181, 3) := DL_law_1516.2.2.2.2.2.2.2.2.2.2.2.2.2.1
theorem dL_law_1538 : decode cL_law 1538 = .ok (.pop, 1) := DL_law_1516.2.2.2.2.2.2.2.2.2.2.2.2.2.2.1
theorem dL_law_1539 : decode cL_law 1539 = .ok (.aload_n 2, 1) := DL_law_1516.2.2.2.2.2.2.2.2.2.2.2.2.2.2.2.1
theorem DL_law_1540 : dAre cL_law [(1540, .aload_n 0, 1), (1541, .iload 4, 2), (1543, .iconst 1, 1), (1544, .iadd, 1), (1545, .iaload, 1), (1546, .invokevirtual 184, 3), (1549, .pop, 1), (1550, .goto 54, 3), (1553, .aload_n 1, 1), (1554, .invokevirtual 185, 3), (1557, .pop, 1), (1558, .aload_n 2, 1), (1559, .invokevirtual 188, 3), (1562, .pop, 1), (1563, .goto 41, 3), (1566, .aload_n 1, 1)] := dAre0 (by decide +kernel)
theorem dL_law_1540 : decode cL_law 1540 = .ok (.aload_n 0, 1) := DL_law_1540.1
theorem dL_law_1541 : decode cL_law 1541 = .ok (.iload 4, 2) := DL_law_1540.2.1
theorem dL_law_1543 : decode cL_law 1543 = .ok (.iconst 1, 1) := DL_law_1540.2.2.1
theorem dL_law_1544 : decode cL_law 1544 = .ok (.iadd, 1) := DL_law_1540.2.2.2.1
theorem dL_law_1545 : decode cL_law 1545 = .ok (.iaload, 1) := DL_law_1540.2.2.2.2.1
theorem dL_law_1546 : decode cL_law 1546 = .ok (.invokevirtual 184, 3) := DL_law_1540.2.2.2.2.2.1
theorem dL_law_1549 : decode cL_law 1549 = .ok (.pop, 1) := DL_law_1540.2.2.2.2.2.2.1
theorem dL_law_1550 : decode cL_law 1550 = .ok (.goto 54, 3) := DL_law_1540.2.2.2.2.2.2.2.1
theorem dL_law_1553 : decode cL_law 1553 = .ok (.aload_n 1, 1) := DL_law_1540.2.2.2.2.2.2.2.2.1
theorem dL_law_1554 : decode cL_law 1554 = .ok (.invokevirtual 185, 3) := DL_law_1540.2.2.2.2.2.2.2.2.2.1
theorem dL_law_1557 : decode cL_law 1557 = .ok (.pop, 1) := DL_law_1540.2.2.2.2.2.2.2.2.2.2.1
theorem dL_law_1558 : decode cL_law 1558 = .ok (.aload_n 2, 1) := DL_law_1540.2.2.2.2.2.2.2.2.2.2.2.1
theorem dL_law_1559 : decode cL_law 1559 = .ok (.invokevirtual 188, 3) := DL_law_1540.2.2.2.2.2.2.2.2.2.2.2.2.1
theorem dL_law_1562 : decode cL_law 1562 = .ok (.pop, 1) := DL_law_1540.2.2.2.2.2.2.2.2.2.2.2.2.2.1
theorem dL_law_1563 : decode cL_law 1563 = .ok (.goto 41, 3) := DL_law_1540.2.2.2.2.2.2.2.2.2.2.2.2.2.2.1
theorem dL_law_1566 : decode cL_law 1566 = .ok (.aload_n 1, 1) := DL_law_1540.2.2.2.2.2.2.2.2.2.2.2.2.2.2.2.1
theorem DL_law_1567 : dAre cL_law [(1567, .invokevirtual 189, 3), (1570, .aload_n 2, 1), (1571, .invokevirtual 192, 3), (1574, .if_icmp .eq 30, 3), (1577, .iconst 0, 1), (1578, .ireturn, 1), (1579, .aload_n 1, 1), (1580, .aload_n 0, 1), (1581, .iload 4, 2), (1583, .iconst 1, 1), (1584, .iadd, 1), (1585, .iaload, 1), (1586, .invokevirtual 193, 3), (1589, .pop, 1), (1590, .aload_n 2, 1), (1591, .aload_n 0, 1)] := dAre0 (by decide +kernel)
theorem dL_law_1567 : decode cL_law 1567 = .ok (.invokevirtual 189, 3) := DL_law_1567.1
theorem dL_law_1570 : decode cL_law 1570 = .ok (.aload_n 2, 1) := DL_law_1567.2.1
theorem dL_law_1571 : decode cL_law 1571 = .ok (.invokevirtual 192, 3) := DL_law_1567.2.2.1
theorem dL_law_1574 : decode cL_law 1574 = .ok (.if_icmp .eq 30, 3) := DL_law_1567.2.2.2.1
theorem dL_law_1577 : decode cL_law 1577 = .ok (.iconst 0, 1) := DL_law_1567.2.2.2.2.1
theorem dL_law_1578 : decode cL_law 1578 = .ok (.ireturn, 1) := DL_law_1567.2.2.2.2.2.1
theorem dL_law_1579 : decode cL_law 1579 = .ok (.aload_n 1, 1) := DL_law_1567.2.2.2.2.2.2.1
theorem dL_law_1580 : decode cL_law 1580 = .ok (.aload_n 0, 1) := DL_law_1567.2.2.2.2.2.2.2.1
theorem dL_law_1581 : decode cL_law 1581 = .ok (.iload 4, 2) := DL_law_1567.2.2.2.2.2.2.2.2.1
theorem dL_law_1583 : decode cL_law 1583 = .ok (.iconst 1, 1) := DL_law_1567.2.2.2.2.2.2.2.2.2.1
theorem dL_law_1584 : decode cL_law 1584 = .ok (.iadd, 1) := DL_law_1567.2.2.2.2.2.2.2.2.2.2.1
theorem dL_law_1585 : decode cL_law 1585 = .ok (.iaload, 1) := DL_law_1567.2.2.2.2.2.2.2.2.2.2.2.1
theorem dL_law_1586 : decode cL_law 1586 = .ok (.invokevirtual 193, 3) := DL_law_1567.2.2.2.2.2.2.2.2.2.2.2.2.1
theorem dL_law_1589 : decode cL_law 1589 = .ok (.pop, 1) := DL_law_1567.2.2.2.2.2.2.2.2.2.2.2.2.2.1
theorem dL_law_1590 : decode cL_law 1590 = .ok (.aload_n 2, 1) := DL_law_1567.2.2.2.2.2.2.2.2.2.2.2.2.2.2.1
theorem dL_law_1591 : decode cL_law 1591 = .ok (.aload_n 0, 1) := DL_law_1567.2.2.2.2.2.2.2.2.2.2.2.2.2.2.2.1
theorem DL_law_1592 : dAre cL_law [(1592, .iload 4, 2), (1594, .iconst 1, 1), (1595, .iadd, 1), (1596, .iaload, 1), (1597, .invokevirtual 196, 3), (1600, .pop, 1), (1601, .goto 3, 3), (1604, .iinc 4 6, 3), (1607, .goto (-1584), 3), (1610, .iconst 1, 1), (1611, .ireturn, 1)] := dAre0 (by decide +kernel)
theorem dL_law_1592 : decode cL_law 1592 = .ok (.iload 4, 2) := DL_law_1592.1
theorem dL_law_1594 : decode cL_law 1594 = .ok (.iconst 1, 1) := DL_law_1592.2.1
theorem dL_law_1595 : decode cL_law 1595 = .ok (.iadd, 1) := DL_law_1592.2.2.1
theorem dL_law_1596 : decode cL_law 1596 = .ok (.iaload, 1) := DL_law_1592.2.2.2.1
theorem dL_law_1597 : decode cL_law 1597 = .ok (.invokevirtual 196, 3) := DL_law_1592.2.2.2.2.1
theorem dL_law_1600 : decode cL_law 1600 = .ok (.pop, 1) := DL_law_1592.2.2.2.2.2.1
theorem dL_law_1601 : decode cL_law 1601 = .ok (.goto 3, 3) := DL_law_1592.2.2.2.2.2.2.1
theorem dL_law_1604 : decode cL_law 1604 = .ok (.iinc 4 6, 3) := DL_law_1592.2.2.2.2.2.2.2.1
theorem dL_law_1607 : decode cL_law 1607 = .ok (.goto (-1584), 3) := DL_law_1592.2.2.2.2.2.2.2.2.1
theorem dL_law_1610 : decode cL_law 1610 = .ok (.iconst 1, 1) := DL_law_1592.2.2.2.2.2.2.2.2.2.1
theorem dL_law_1611 : decode cL_law 1611 = .ok (.ireturn, 1) := DL_law_1592.2.2.2.2.2.2.2.2.2.2.1
