theorem dL_law_17 : decode cL_law 17 = .ok (.newarray .long, 2) := by decide +kernel
theorem dL_law_40 : decode cL_law 40 = .ok (.tableswitch 1592 0 40 #[180, 253, 278, 303, 328, 353, 421, 470, 483, 520, 533, 558, 583, 596, 621, 646, 671, 708, 745, 782, 843, 904, 929, 966, 991, 1016, 1077, 1138, 1163, 1188, 1257, 1282, 1295, 1332, 1405, 1454, 1491, 1516, 1541, 1554, 1567], 180) := by decide +kernel
theorem dL_law_448 : decode cL_law 448 = .ok (.laload, 1) := by decide +kernel
theorem dL_law_452 : decode cL_law 452 = .ok (.lcmp, 1) := by decide +kernel
theorem DL_law_0 : dAre cL_law [(0, .new 8, 3), (3, .dup, 1), (4, .invokespecial 15, 3), (7, .astore_n 1, 1), (8, .new 16, 3), (11, .dup, 1), (12, .invokespecial 18, 3), (15, .astore_n 2, 1), (16, .iconst 1, 1), (19, .astore_n 3, 1), (20, .iconst 0, 1), (21, .istore 4, 2), (23, .iload 4, 2), (25, .aload_n 0, 1), (26, .arraylength, 1), (27, .bipush 6, 2)] := dAre0 (by decide +kernel)
theorem dL_law_0 : decode cL_law 0 = .ok (.new 8, 3) := DL_law_0.1
theorem dL_law_3 : decode cL_law 3 = .ok (.dup, 1) := DL_law_0.2.1
theorem dL_law_4 : decode cL_law 4 = .ok (.invokespecial 15, 3) := DL_law_0.2.2.1
theorem dL_law_7 : decode cL_law 7 = .ok (.astore_n 1, 1) := DL_law_0.2.2.2.1
theorem dL_law_8 : decode cL_law 8 = .ok (.new 16, 3) := DL_law_0.2.2.2.2.1
theorem dL_law_11 : decode cL_law 11 = .ok (.dup, 1) := DL_law_0.2.2.2.2.2.1
theorem dL_law_12 : decode cL_law 12 = .ok (.invokespecial 18, 3) := DL_law_0.2.2.2.2.2.2.1
theorem dL_law_15 : decode cL_law 15 = .ok (.astore_n 2, 1) := DL_law_0.2.2.2.2.2.2.2.1
theorem dL_law_16 : decode cL_law 16 = .ok (.iconst 1, 1) := DL_law_0.2.2.2.2.2.2.2.2.1
theorem dL_law_19 : decode cL_law 19 = .ok (.astore_n 3, 1) := DL_law_0.2.2.2.2.2.2.2.2.2.1
theorem dL_law_20 : decode cL_law 20 = .ok (.iconst 0, 1) := DL_law_0.2.2.2.2.2.2.2.2.2.2.1
theorem dL_law_21 : decode cL_law 21 = .ok (.istore 4, 2) := DL_law_0.2.2.2.2.2.2.2.2.2.2.2.1
theorem dL_law_23 : decode cL_law 23 = .ok (.iload 4, 2) := DL_law_0.2.2.2.2.2.2.2.2.2.2.2.2.1
theorem dL_law_25 : decode cL_law 25 = .ok (.aload_n 0, 1) := DL_law_0.2.2.2.2.2.2.2.2.2.2.2.2.2.1
theorem dL_law_26 : decode cL_law 26 = .ok (.arraylength, 1) := DL_law_0.2.2.2.2.2.2.2.2.2.2.2.2.2.2.1
theorem dL_law_27 : decode cL_law 27 = .ok (.bipush 6, 2) := DL_law_0.2.2.2.2.2.2.2.2.2.2.2.2.2.2.2.1
theorem DL_law_29 : dAre cL_law [(29, .isub, 1), (30, .if_icmp .gt 1608, 3), (33, .aload_n 0, 1), (34, .iload 4, 2), (36, .iaload, 1), (37, .bipush 63, 2), (39, .iand, 1), (220, .aload_n 1, 1), (221, .aload_n 0, 1), (222, .iload 4, 2), (224, .iconst 1, 1), (225, .iadd, 1), (226, .iaload, 1), (227, .aload_n 0, 1), (228, .iload 4, 2), (230, .iconst 2, 1)] := dAre0 (by decide +kernel)
theorem dL_law_29 : decode cL_law 29 = .ok (.isub, 1) := DL_law_29.1
theorem dL_law_30 : decode cL_law 30 = .ok (.if_icmp .gt 1608, 3) := DL_law_29.2.1
theorem dL_law_33 : decode cL_law 33 = .ok (.aload_n 0, 1) := DL_law_29.2.2.1
theorem dL_law_34 : decode cL_law 34 = .ok (.iload 4, 2) := DL_law_29.2.2.2.1
theorem dL_law_36 : decode cL_law 36 = .ok (.iaload, 1) := DL_law_29.2.2.2.2.1
theorem dL_law_37 : decode cL_law 37 = .ok (.bipush 63, 2) := DL_law_29.2.2.2.2.2.1
theorem dL_law_39 : decode cL_law 39 = .ok (.iand, 1) := DL_law_29.2.2.2.2.2.2.1
theorem dL_law_220 : decode cL_law 220 = .ok (.aload_n 1, 1) := DL_law_29.2.2.2.2.2.2.2.1
theorem dL_law_221 : decode cL_law 221 = .ok (.aload_n 0, 1) := DL_law_29.2.2.2.2.2.2.2.2.1
theorem dL_law_222 : decode cL_law 222 = .ok (.iload 4, 2) := DL_law_29.2.2.2.2.2.2.2.2.2.1
theorem dL_law_224 : decode cL_law 224 = .ok (.iconst 1, 1) := DL_law_29.2.2.2.2.2.2.2.2.2.2.1
theorem dL_law_225 : decode cL_law 225 = .ok (.iadd, 1) := DL_law_29.2.2.2.2.2.2.2.2.2.2.2.1
theorem dL_law_226 : decode cL_law 226 = .ok (.iaload, 1) := DL_law_29.2.2.2.2.2.2.2.2.2.2.2.2.1
theorem dL_law_227 : decode cL_law 227 = .ok (.aload_n 0, 1) := DL_law_29.2.2.2.2.2.2.2.2.2.2.2.2.2.1
theorem dL_law_228 : decode cL_law 228 = .ok (.iload 4, 2) := DL_law_29.2.2.2.2.2.2.2.2.2.2.2.2.2.2.1
theorem dL_law_230 : decode cL_law 230 = .ok (.iconst 2, 1) := DL_law_29.2.2.2.2.2.2.2.2.2.2.2.2.2.2.2.1
theorem DL_law_231 : dAre cL_law [(231, .iadd, 1), (232, .iaload, 1), (233, .aload_n 0, 1), (234, .iload 4, 2), (236, .iconst 3, 1), (237, .iadd, 1), (238, .iaload, 1), (239, .aload_n 0, 1), (240, .iload 4, 2), (242, .iconst 4, 1), (243, .iadd, 1), (244, .iaload, 1), (245, .aload_n 0, 1), (246, .iload 4, 2), (248, .iconst 5, 1), (249, .iadd, 1)] := dAre0 (by decide +kernel)
theorem dL_law_231 : decode cL_law 231 = .ok (.iadd, 1) := DL_law_231.1
theorem dL_law_232 : decode cL_law 232 = .ok (.iaload, 1) := DL_law_231.2.1
theorem dL_law_233 : decode cL_law 233 = .ok (.aload_n 0, 1) := DL_law_231.2.2.1
theorem dL_law_234 : decode cL_law 234 = .ok (.iload 4, 2) := DL_law_231.2.2.2.1
theorem dL_law_236 : decode cL_law 236 = .ok (.iconst 3, 1) := DL_law_231.2.2.2.2.1
theorem dL_law_237 : decode cL_law 237 = .ok (.iadd, 1) := DL_law_231.2.2.2.2.2.1
theorem dL_law_238 : decode cL_law 238 = .ok (.iaload, 1) := DL_law_231.2.2.2.2.2.2.1
theorem dL_law_239 : decode cL_law 239 = .ok (.aload_n 0, 1) := DL_law_231.2.2.2.2.2.2.2.1
theorem dL_law_240 : decode cL_law 240 = .ok (.iload 4, 2) := DL_law_231.2.2.2.2.2.2.2.2.1
theorem dL_law_242 : decode cL_law 242 = .ok (.iconst 4, 1) := DL_law_231.2.2.2.2.2.2.2.2.2.1
theorem dL_law_243 : decode cL_law 243 = .ok (.iadd, 1) := DL_law_231.2.2.2.2.2.2.2.2.2.2.1
theorem dL_law_244 : decode cL_law 244 = .ok (.iaload, 1) := DL_law_231.2.2.2.2.2.2.2.2.2.2.2.1
theorem dL_law_245 : decode cL_law 245 = .ok (.aload_n 0, 1) := DL_law_231.2.2.2.2.2.2.2.2.2.2.2.2.1
theorem dL_law_246 : decode cL_law 246 = .ok (.iload 4, 2) := DL_law_231.2.2.2.2.2.2.2.2.2.2.2.2.2.1
theorem dL_law_248 : decode cL_law 248 = .ok (.iconst 5, 1) := DL_law_231.2.2.2.2.2.2.2.2.2.2.2.2.2.2.1
theorem dL_law_249 : decode cL_law 249 = .ok (.iadd, 1) := DL_law_231.2.2.2.2.2.2.2.2.2.2.2.2.2.2.2.1
theorem DL_law_250 : dAre cL_law [(250, .iaload, 1), (251, .invokevirtual 19, 3), (254, .pop, 1), (255, .aload_n 2, 1), (256, .aload_n 0, 1), (257, .iload 4, 2), (259, .iconst 1, 1), (260, .iadd, 1), (261, .iaload, 1), (262, .aload_n 0, 1), (263, .iload 4, 2), (265, .iconst 2, 1), (266, .iadd, 1), (267, .iaload, 1), (268, .aload_n 0, 1), (269, .iload 4, 2)] := dAre0 (by decide +kernel)
theorem dL_law_250 : decode cL_law 250 = .ok (.iaload, 1) := DL_law_250.1
theorem dL_law_251 : decode cL_law 251 = .ok (.invokevirtual 19, 3) := DL_law_250.2.1
theorem dL_law_254 : decode cL_law 254 = .ok (.pop, 1) := DL_law_250.2.2.1
theorem dL_law_255 : decode cL_law 255 = .ok (.aload_n 2, 1) := DL_law_250.2.2.2.1
theorem dL_law_256 : decode cL_law 256 = .ok (.aload_n 0, 1) := DL_law_250.2.2.2.2.1
theorem dL_law_257 : decode cL_law 257 = .ok (.iload 4, 2) := DL_law_250.2.2.2.2.2.1
theorem dL_law_259 : decode cL_law 259 = .ok (.iconst 1, 1) := DL_law_250.2.2.2.2.2.2.1
theorem dL_law_260 : decode cL_law 260 = .ok (.iadd, 1) := DL_law_250.2.2.2.2.2.2.2.1
theorem dL_law_261 : decode cL_law 261 = .ok (.iaload, 1) := DL_law_250.2.2.2.2.2.2.2.2.1
theorem dL_law_262 : decode cL_law 262 = .ok (.aload_n 0, 1) := DL_law_250.2.2.2.2.2.2.2.2.2.1
theorem dL_law_263 : decode cL_law 263 = .ok (.iload 4, 2) := DL_law_250.2.2.2.2.2.2.2.2.2.2.1
theorem dL_law_265 : decode cL_law 265 = .ok (.iconst 2, 1) := DL_law_250.2.2.2.2.2.2.2.2.2.2.2.1
theorem dL_law_266 : decode cL_law 266 = .ok (.iadd, 1) := DL_law_250.2.2.2.2.2.2.2.2.2.2.2.2.1
theorem dL_law_267 : decode cL_law 267 = .ok (.iaload, 1) := DL_law_250.2.2.2.2.2.2.2.2.2.2.2.2.2.1
theorem dL_law_268 : decode cL_law 268 = .ok (.aload_n 0, 1) := DL_law_250.2.2.2.2.2.2.2.2.2.2.2.2.2.2.1
theorem dL_law_269 : decode cL_law 269 = .ok (.iload 4, 2) := DL_law_250.2.2.2.2.2.2.2.2.2.2.2.2.2.2.2.1
theorem DL_law_271 : dAre cL_law [(271, .iconst 3, 1), (272, .iadd, 1), (273, .iaload, 1), (274, .aload_n 0, 1), (275, .iload 4, 2), (277, .iconst 4, 1), (278, .iadd, 1), (279, .iaload, 1), (280, .aload_n 0, 1), (281, .iload 4, 2), (283, .iconst 5, 1), (284, .iadd, 1), (285, .iaload, 1), (286, .invokevirtual 23, 3), (289, .pop, 1), (290, .goto 1342, 3)] := dAre0 (by decide +kernel)
theorem dL_law_271 : decode cL_law 271 = .ok (.iconst 3, 1) := DL_law_271.1
theorem dL_law_272 : decode cL_law 272 = .ok (.iadd, 1) := DL_law_271.2.1
theorem dL_law_273 : decode cL_law 273 = .ok (.iaload, 1) := DL_law_271.2.2.1
theorem dL_law_274 : decode cL_law 274 = .ok (.aload_n 0, 1) := DL_law_271.2.2.2.1
theorem dL_law_275 : decode cL_law 275 = .ok (.iload 4, 2) := DL_law_271.2.2.2.2.1
theorem dL_law_277 : decode cL_law 277 = .ok (.iconst 4, 1) := DL_law_271.2.2.2.2.2.1
theorem dL_law_278 : decode cL_law 278 = .ok (.iadd, 1) := DL_law_271.2.2.2.2.2.2.1
theorem dL_law_279 : decode cL_law 279 = .ok (.iaload, 1) := DL_law_271.2.2.2.2.2.2.2.1
theorem dL_law_280 : decode cL_law 280 = .ok (.aload_n 0, 1) := DL_law_271.2.2.2.2.2.2.2.2.1
theorem dL_law_281 : decode cL_law 281 = .ok (.iload 4, 2) := DL_law_271.2.2.2.2.2.2.2.2.2.1
theorem dL_law_283 : decode cL_law 283 = .ok (.iconst 5, 1) := DL_law_271.2.2.2.2.2.2.2.2.2.2.1
theorem dL_law_284 : decode cL_law 284 = .ok (.iadd, 1) := DL_law_271.2.2.2.2.2.2.2.2.2.2.2.1
theorem dL_law_285 : decode cL_law 285 = .ok (.iaload, 1) := DL_law_271.2.2.2.2.2.2.2.2.2.2.2.2.1
theorem dL_law_286 : decode cL_law 286 = .ok (.invokevirtual 23, 3) := DL_law_271.2.2.2.2.2.2.2.2.2.2.2.2.2.1
theorem dL_law_289 : decode cL_law 289 = .ok (.pop, 1) := DL_law_271.2.2.2.2.2.2.2.2.2.2.2.2.2.2.1
theorem dL_law_290 : decode cL_law 290 = .ok (.goto 1342, 3) := DL_law_271.2.2.2.2.2.2.2.2.2.2.2.2.2.2.2.1
theorem DL_law_293 : dAre cL_law [(293, .aload_n 1, 1), (294, .aload_n 0, 1), (295, .iload 4, 2), (297, .iconst 1, 1), (298, .iadd, 1), (299, .iaload, 1), (300, .invokevirtual 24, 3), (303, .pop, 1), (304, .aload_n 2, 1), (305, .aload_n 0, 1), (306, .iload 4, 2), (308, .iconst 1, 1), (309, .iadd, 1), (310, .iaload, 1), (311, .invokevirtual 28, 3), (314, .pop, 1)] := dAre0 (by decide +kernel)
theorem dL_law_293 : decode cL_law 293 = .ok (.aload_n 1, 1) := DL_law_293.1
theorem dL_law_294 : decode cL_law 294 = .ok (.aload_n 0, 1) := DL_law_293.2.1
theorem dL_law_295 : decode cL_law 295 = .ok (.iload 4, 2) := DL_law_293.2.2.1
theorem dL_law_297 : decode cL_law 297 = .ok (.iconst 1, 1) := DL_law_293.2.2.2.1
theorem dL_law_298 : decode cL_law 298 = .ok (.iadd, 1) := DL_law_293.2.2.2.2.1
theorem dL_law_299 : decode cL_law 299 = .ok (.iaload, 1) := DL_law_293.2.2.2.2.2.1
theorem dL_law_300 : decode cL_law 300 = .ok (.invokevirtual 24, 3) := DL_law_293.2.2.2.2.2.2.1
theorem dL_law_303 : decode cL_law 303 = .ok (.pop, 1) := DL_law_293.2.2.2.2.2.2.2.1
theorem dL_law_304 : decode cL_law 304 = .ok (.aload_n 2, 1) := DL_law_293.2.2.2.2.2.2.2.2.1
theorem dL_law_305 : decode cL_law 305 = .ok (.aload_n 0, 1) := DL_law_293.2.2.2.2.2.2.2.2.2.1
theorem dL_law_306 : decode cL_law 306 = .ok (.iload 4, 2) := DL_law_293.2.2.2.2.2.2.2.2.2.2.1
theorem dL_law_308 : decode cL_law 308 = .ok (.iconst 1, 1) := DL_law_293.2.2.2.2.2.2.2.2.2.2.2.1
theorem dL_law_309 : decode cL_law 309 = .ok (.iadd, 1) := DL_law_293.2.2.2.2.2.2.2.2.2.2.2.2.1
theorem dL_law_310 : decode cL_law 310 = .ok (.iaload, 1) := DL_law_293.2.2.2.2.2.2.2.2.2.2.2.2.2.1
theorem dL_law_311 : decode cL_law 311 = .ok (.invokevirtual 28, 3) := DL_law_293.2.2.2.2.2.2.2.2.2.2.2.2.2.2.1
theorem dL_law_314 : decode cL_law 314 = .ok (.pop, 1) := DL_law_293.2.2.2.2.2.2.2.2.2.2.2.2.2.2.2.1
theorem DL_law_315 : dAre cL_law [(315, .goto 1317, 3), (318, .aload_n 1, 1), (319, .aload_n 0, 1), (320, .iload 4, 2), (322, .iconst 1, 1), (323, .iadd, 1), (324, .iaload, 1), (325, .invokevirtual 29, 3), (328, .pop, 1), (329, .aload_n 2, 1), (330, .aload_n 0, 1), (331, .iload 4, 2), (333, .iconst 1, 1), (334, .iadd, 1), (335, .iaload, 1), (336, .invokevirtual 33, 3)] := dAre0 (by decide +kernel)
theorem dL_law_315 : decode cL_law 315 = .ok (.goto 1317, 3) := DL_law_315.1
theorem dL_law_318 : decode cL_law 318 = .ok (.aload_n 1, 1) := DL_law_315.2.1
theorem dL_law_319 : decode cL_law 319 = .ok (.aload_n 0, 1) := DL_law_315.2.2.1
theorem dL_law_320 : decode cL_law 320 = .ok (.iload 4, 2) := DL_law_315.2.2.2.1
theorem dL_law_322 : decode cL_law 322 = .ok (.iconst 1, 1) := DL_law_315.2.2.2.2.1
theorem dL_law_323 : decode cL_law 323 = .ok (.iadd, 1) := DL_law_315.2.2.2.2.2.1
theorem dL_law_324 : decode cL_law 324 = .ok (.iaload, 1) := DL_law_315.2.2.2.2.2.2.1
theorem dL_law_325 : decode cL_law 325 = .ok (.invokevirtual 29, 3) := DL_law_315.2.2.2.2.2.2.2.1
theorem dL_law_328 : decode cL_law 328 = .ok (.pop, 1) := DL_law_315.2.2.2.2.2.2.2.2.1
theorem dL_law_329 : decode cL_law 329 = .ok (.aload_n 2, 1) := DL_law_315.2.2.2.2.2.2.2.2.2.1
theorem dL_law_330 : decode cL_law 330 = .ok (.aload_n 0, 1) := DL_law_315.2.2.2.2.2.2.2.2.2.2.1
theorem dL_law_331 : decode cL_law 331 = .ok (.iload 4, 2) := DL_law_315.2.2.2.2.2.2.2.2.2.2.2.1
theorem dL_law_333 : decode cL_law 333 = .ok (.iconst 1, 1) := DL_law_315.2.2.2.2.2.2.2.2.2.2.2.2.1
theorem dL_law_334 : decode cL_law 334 = .ok (.iadd, 1) := DL_law_315.2.2.2.2.2.2.2.2.2.2.2.2.2.1
theorem dL_law_335 : decode cL_law 335 = .ok (.iaload, 1) := DL_law_315.2.2.2.2.2.2.2.2.2.2.2.2.2.2.1
theorem dL_law_336 : decode cL_law 336 = .ok (.invokevirtual 33, 3) := DL_law_315.2.2.2.2.2.2.2.2.2.2.2.2.2.2.2.1
theorem DL_law_339 : dAre cL_law [(339, .pop, 1), (340, .goto 1292, 3), (343, .aload_n 1, 1), (344, .aload_n 0, 1), (345, .iload 4, 2), (347, .iconst 1, 1), (348, .iadd, 1), (349, .iaload, 1), (350, .invokevirtual 34, 3), (353, .pop, 1), (354, .aload_n 2, 1), (355, .aload_n 0, 1), (356, .iload 4, 2), (358, .iconst 1, 1), (359, .iadd, 1), (360, .iaload, 1)] := dAre0 (by decide +kernel)
theorem dL_law_339 : decode cL_law 339 = .ok (.pop, 1) := DL_law_339.1
theorem dL_law_340 : decode cL_law 340 = .ok (.goto 1292, 3) := DL_law_339.2.1
theorem dL_law_343 : decode cL_law 343 = .ok (.aload_n 1, 1) := DL_law_339.2.2.1
theorem dL_law_344 : decode cL_law 344 = .ok (.aload_n 0, 1) := DL_law_339.2.2.2.1
theorem dL_law_345 : decode cL_law 345 = .ok (.iload 4, 2) := DL_law_339.2.2.2.2.1
theorem dL_law_347 : decode cL_law 347 = .ok (.iconst 1, 1) := DL_law_339.2.2.2.2.2.1
theorem dL_law_348 : decode cL_law 348 = .ok (.iadd, 1) := DL_law_339.2.2.2.2.2.2.1
theorem dL_law_349 : decode cL_law 349 = .ok (.iaload, 1) := DL_law_339.2.2.2.2.2.2.2.1
theorem dL_law_350 : decode cL_law 350 = .ok (.invokevirtual 34, 3) := DL_law_339.2.2.2.2.2.2.2.2.1
theorem dL_law_353 : decode cL_law 353 = .ok (.pop, 1) := DL_law_339.2.2.2.2.2.2.2.2.2.1
theorem dL_law_354 : decode cL_law 354 = .ok (.aload_n 2, 1) := DL_law_339.2.2.2.2.2.2.2.2.2.2.1
theorem dL_law_355 : decode cL_law 355 = .ok (.aload_n 0, 1) := DL_law_339.2.2.2.2.2.2.2.2.2.2.2.1
theorem dL_law_356 : decode cL_law 356 = .ok (.iload 4, 2) := DL_law_339.2.2.2.2.2.2.2.2.2.2.2.2.1
theorem dL_law_358 : decode cL_law 358 = .ok (.iconst 1, 1) := DL_law_339.2.2.2.2.2.2.2.2.2.2.2.2.2.1
theorem dL_law_359 : decode cL_law 359 = .ok (.iadd, 1) := DL_law_339.2.2.2.2.2.2.2.2.2.2.2.2.2.2.1
theorem dL_law_360 : decode cL_law 360 = .ok (.iaload, 1) := DL_law_339.2.2.2.2.2.2.2.2.2.2.2.2.2.2.2.1
theorem DL_law_361 : dAre cL_law [(361, .invokevirtual 37, 3), (364, .pop, 1), (365, .goto 1267, 3), (368, .aload_n 1, 1), (369, .aload_n 0, 1), (370, .iload 4, 2), (372, .iconst 1, 1), (373, .iadd, 1), (374, .iaload, 1), (375, .invokevirtual 38, 3), (378, .pop, 1), (379, .aload_n 2, 1), (380, .aload_n 0, 1), (381, .iload 4, 2), (383, .iconst 1, 1), (384, .iadd, 1)] := dAre0 (by decide +kernel)
theorem dL_law_361 : decode cL_law 361 = .ok (.invokevirtual 37, 3) := DL_law_361.1
theorem dL_law_364 : decode cL_law 364 = .ok (.pop, 1) := DL_law_361.2.1
theorem dL_law_365 : decode cL_law 365 = .ok (.goto 1267, 3) := DL_law_361.2.2.1
theorem dL_law_368 : decode cL_law 368 = .ok (.aload_n 1, 1) := DL_law_361.2.2.2.1
theorem dL_law_369 : decode cL_law 369 = .ok (.aload_n 0, 1) := DL_law_361.2.2.2.2.1
theorem dL_law_370 : decode cL_law 370 = .ok (.iload 4, 2) := DL_law_361.2.2.2.2.2.1
theorem dL_law_372 : decode cL_law 372 = .ok (.iconst 1, 1) := DL_law_361.2.2.2.2.2.2.1
theorem dL_law_373 : decode cL_law 373 = .ok (.iadd, 1) := DL_law_361.2.2.2.2.2.2.2.1
theorem dL_law_374 : decode cL_law 374 = .ok (.iaload, 1) := DL_law_361.2.2.2.2.2.2.2.2.1
theorem dL_law_375 : decode cL_law 375 = .ok (.invokevirtual 38, 3) := DL_law_361.2.2.2.2.2.2.2.2.2.1
theorem dL_law_378 : decode cL_law 378 = .ok (.pop, 1) := DL_law_361.2.2.2.2.2.2.2.2.2.2.1
theorem dL_law_379 : decode cL_law 379 = .ok (.aload_n 2, 1) := DL_law_361.2.2.2.2.2.2.2.2.2.2.2.1
theorem dL_law_380 : decode cL_law 380 = .ok (.aload_n 0, 1) := DL_law_361.2.2.2.2.2.2.2.2.2.2.2.2.1
theorem dL_law_381 : decode cL_law 381 = .ok (.iload 4, 2) := DL_law_361.2.2.2.2.2.2.2.2.2.2.2.2.2.1
theorem dL_law_383 : decode cL_law 383 = .ok (.iconst 1, 1) := DL_law_361.2.2.2.2.2.2.2.2.2.2.2.2.2.2.1
theorem dL_law_384 : decode cL_law 384 = .ok (.iadd, 1) := DL_law_361.2.2.2.2.2.2.2.2.2.2.2.2.2.2.2.1
theorem DL_law_385 : dAre cL_law [(385, .iaload, 1), (386, .invokevirtual 41, 3), (389, .pop, 1), (390, .goto 1242, 3), (393, .aload_n 1, 1), (394, .aload_n 0, 1), (395, .iload 4, 2), (397, .iconst 1, 1), (398, .iadd, 1), (399, .iaload, 1), (400, .aload_n 0, 1), (401, .iload 4, 2), (403, .iconst 2, 1), (404, .iadd, 1), (405, .iaload, 1), (406, .aload_n 3, 1)] := dAre0 (by decide +kernel)
theorem dL_law_385 : decode cL_law 385 = .ok (.iaload, 1) := DL_law_385.1
theorem dL_law_386 : decode cL_law 386 = .ok (.invokevirtual 41, 3) := DL_law_385.2.1
theorem dL_law_389 : decode cL_law 389 = .ok (.pop, 1) := DL_law_385.2.2.1
theorem dL_law_390 : decode cL_law 390 = .ok (.goto 1242, 3) := DL_law_385.2.2.2.1
theorem dL_law_393 : decode cL_law 393 = .ok (.aload_n 1, 1) := DL_law_385.2.2.2.2.1
theorem dL_law_394 : decode cL_law 394 = .ok (.aload_n 0, 1) := DL_law_385.2.2.2.2.2.1
theorem dL_law_395 : decode cL_law 395 = .ok (.iload 4, 2) := DL_law_385.2.2.2.2.2.2.1
theorem dL_law_397 : decode cL_law 397 = .ok (.iconst 1, 1) := DL_law_385.2.2.2.2.2.2.2.1
theorem dL_law_398 : decode cL_law 398 = .ok (.iadd, 1) := DL_law_385.2.2.2.2.2.2.2.2.1
theorem dL_law_399 : decode cL_law 399 = .ok (.iaload, 1) := DL_law_385.2.2.2.2.2.2.2.2.2.1
theorem dL_law_400 : decode cL_law 400 = .ok (.aload_n 0, 1) := DL_law_385.2.2.2.2.2.2.2.2.2.2.1
theorem dL_law_401 : decode cL_law 401 = .ok (.iload 4, 2) := DL_law_385.2.2.2.2.2.2.2.2.2.2.2.1
theorem dL_law_403 : decode cL_law 403 = .ok (.iconst 2, 1) := DL_law_385.2.2.2.2.2.2.2.2.2.2.2.2.1
theorem dL_law_404 : decode cL_law 404 = .ok (.iadd, 1) := DL_law_385.2.2.2.2.2.2.2.2.2.2.2.2.2.1
theorem dL_law_405 : decode cL_law 405 = .ok (.iaload, 1) := DL_law_385.2.2.2.2.2.2.2.2.2.2.2.2.2.2.1
theorem dL_law_406 : decode cL_law 406 = .ok (.aload_n 3, 1) := DL_law_385.2.2.2.2.2.2.2.2.2.2.2.2.2.2.2.1
theorem DL_law_407 : dAre cL_law [(407, .invokestatic 42, 3), (410, .istore 5, 2), (412, .aload_n 2, 1), (413, .aload_n 0, 1), (414, .iload 4, 2), (416, .iconst 1, 1), (417, .iadd, 1), (418, .iaload, 1), (419, .aload_n 0, 1), (420, .iload 4, 2), (422, .iconst 2, 1), (423, .iadd, 1), (424, .iaload, 1), (425, .invokevirtual 47, 3), (428, .istore 6, 2), (430, .aload_n 2, 1)] := dAre0 (by decide +kernel)
theorem dL_law_407 : decode cL_law 407 = .ok (.invokestatic 42, 3) := DL_law_407.1
theorem dL_law_410 : decode cL_law 410 = .ok (.istore 5, 2) := DL_law_407.2.1
theorem dL_law_412 : decode cL_law 412 = .ok (.aload_n 2, 1) := DL_law_407.2.2.1
theorem dL_law_413 : decode cL_law 413 = .ok (.aload_n 0, 1) := DL_law_407.2.2.2.1
theorem dL_law_414 : decode cL_law 414 = .ok (.iload 4, 2) := DL_law_407.2.2.2.2.1
theorem dL_law_416 : decode cL_law 416 = .ok (.iconst 1, 1) := DL_law_407.2.2.2.2.2.1
theorem dL_law_417 : decode cL_law 417 = .ok (.iadd, 1) := DL_law_407.2.2.2.2.2.2.1
theorem dL_law_418 : decode cL_law 418 = .ok (.iaload, 1) := DL_law_407.2.2.2.2.2.2.2.1
theorem dL_law_419 : decode cL_law 419 = .ok (.aload_n 0, 1) := DL_law_407.2.2.2.2.2.2.2.2.1
theorem dL_law_420 : decode cL_law 420 = .ok (.iload 4, 2) := DL_law_407.2.2.2.2.2.2.2.2.2.1
theorem dL_law_422 : decode cL_law 422 = .ok (.iconst 2, 1) := DL_law_407.2.2.2.2.2.2.2.2.2.2.1
theorem dL_law_423 : decode cL_law 423 = .ok (.iadd, 1) := DL_law_407.2.2.2.2.2.2.2.2.2.2.2.1
theorem dL_law_424 : decode cL_law 424 = .ok (.iaload, 1) := DL_law_407.2.2.2.2.2.2.2.2.2.2.2.2.1
theorem dL_law_425 : decode cL_law 425 = .ok (.invokevirtual 47, 3) := DL_law_407.2.2.2.2.2.2.2.2.2.2.2.2.2.1
theorem dL_law_428 : decode cL_law 428 = .ok (.istore 6, 2) := DL_law_407.2.2.2.2.2.2.2.2.2.2.2.2.2.2.1
theorem dL_law_430 : decode cL_law 430 = .ok (.aload_n 2, 1) := DL_law_407.2.2.2.2.2.2.2.2.2.2.2.2.2.2.2.1
theorem DL_law_431 : dAre cL_law [(431, .invokevirtual 48, 3), (434, .iload 5, 2), (436, .if_icmp .eq 5, 3), (439, .iconst 0, 1), (440, .ireturn, 1), (441, .iload 5, 2), (443, .ifCond .ne 15, 3), (446, .aload_n 3, 1), (447, .iconst 0, 1), (449, .iload 6, 2), (451, .i2l, 1), (453, .ifCond .eq 5, 3), (456, .iconst 0, 1), (457, .ireturn, 1), (458, .goto 1174, 3), (461, .aload_n 1, 1)] := dAre0 (by decide +kernel)
theorem dL_law_431 : decode cL_law 431 = .ok (.invokevirtual 48, 3) := DL_law_431.1
theorem dL_law_434 : decode cL_law 434 = .ok (.iload 5, 2) := DL_law_431.2.1
theorem dL_law_436 : decode cL_law 436 = .ok (.if_icmp .eq 5, 3) := DL_law_431.2.2.1
theorem dL_law_439 : decode cL_law 439 = .ok (.iconst 0, 1) := DL_law_431.2.2.2.1
theorem dL_law_440 : decode cL_law 440 = .ok (.ireturn, 1) := DL_law_431.2.2.2.2.1
theorem dL_law_441 : decode cL_law 441 = .ok (.iload 5, 2) := DL_law_431.2.2.2.2.2.1
theorem dL_law_443 : decode cL_law 443 = .ok (.ifCond .ne 15, 3) := DL_law_431.2.2.2.2.2.2.1
theorem dL_law_446 : decode cL_law 446 = .ok (.aload_n 3, 1) := DL_law_431.2.2.2.2.2.2.2.1
theorem dL_law_447 : decode cL_law 447 = .ok (.iconst 0, 1) := DL_law_431.2.2.2.2.2.2.2.2.1
theorem dL_law_449 : decode cL_law 449 = .ok (.iload 6, 2) := DL_law_431.2.2.2.2.2.2.2.2.2.1
theorem dL_law_451 : decode cL_law 451 = .ok (.i2l, 1) := DL_law_431.2.2.2.2.2.2.2.2.2.2.1
theorem dL_law_453 : decode cL_law 453 = .ok (.ifCond .eq 5, 3) := DL_law_431.2.2.2.2.2.2.2.2.2.2.2.1
theorem dL_law_456 : decode cL_law 456 = .ok (.iconst 0, 1) := DL_law_431.2.2.2.2.2.2.2.2.2.2.2.2.1
theorem dL_law_457 : decode cL_law 457 = .ok (.ireturn, 1) := DL_law_431.2.2.2.2.2.2.2.2.2.2.2.2.2.1
theorem dL_law_458 : decode cL_law 458 = .ok (.goto 1174, 3) := DL_law_431.2.2.2.2.2.2.2.2.2.2.2.2.2.2.1
theorem dL_law_461 : decode cL_law 461 = .ok (.aload_n 1, 1) := DL_law_431.2.2.2.2.2.2.2.2.2.2.2.2.2.2.2.1
theorem DL_law_462 : dAre cL_law [(462, .aload_n 0, 1), (463, .iload 4, 2), (465, .iconst 1, 1), (466, .iadd, 1), (467, .iaload, 1), (468, .aload_n 0, 1), (469, .iload 4, 2), (471, .iconst 2, 1), (472, .iadd, 1), (473, .iaload, 1), (474, .aload_n 0, 1), (475, .iload 4, 2), (477, .iconst 3, 1), (478, .iadd, 1), (479, .iaload, 1), (480, .invokevirtual 52, 3)] := dAre0 (by decide +kernel)
theorem dL_law_462 : decode cL_law 462 = .ok (.aload_n 0, 1) := DL_law_462.1
theorem dL_law_463 : decode cL_law 463 = .ok (.iload 4, 2) := DL_law_462.2.1
theorem dL_law_465 : decode cL_law 465 = .ok (.iconst 1, 1) := DL_law_462.2.2.1
theorem dL_law_466 : decode cL_law 466 = .ok (.iadd, 1) := DL_law_462.2.2.2.1
theorem dL_law_467 : decode cL_law 467 = .ok (.iaload, 1) := DL_law_462.2.2.2.2.1
theorem dL_law_468 : decode cL_law 468 = .ok (.aload_n 0, 1) := DL_law_462.2.2.2.2.2.1
theorem dL_law_469 : decode cL_law 469 = .ok (.iload 4, 2) := DL_law_462.2.2.2.2.2.2.1
theorem dL_law_471 : decode cL_law 471 = .ok (.iconst 2, 1) := DL_law_462.2.2.2.2.2.2.2.1
theorem dL_law_472 : decode cL_law 472 = .ok (.iadd, 1) := DL_law_462.2.2.2.2.2.2.2.2.1
theorem dL_law_473 : decode cL_law 473 = .ok (.iaload, 1) := DL_law_462.2.2.2.2.2.2.2.2.2.1
theorem dL_law_474 : decode cL_law 474 = .ok (.aload_n 0, 1) := DL_law_462.2.2.2.2.2.2.2.2.2.2.1
theorem dL_law_475 : decode cL_law 475 = .ok (.iload 4, 2) := DL_law_462.2.2.2.2.2.2.2.2.2.2.2.1
theorem dL_law_477 : decode cL_law 477 = .ok (.iconst 3, 1) := DL_law_462.2.2.2.2.2.2.2.2.2.2.2.2.1
theorem dL_law_478 : decode cL_law 478 = .ok (.iadd, 1) := DL_law_462.2.2.2.2.2.2.2.2.2.2.2.2.2.1
theorem dL_law_479 : decode cL_law 479 = .ok (.iaload, 1) := DL_law_462.2.2.2.2.2.2.2.2.2.2.2.2.2.2.1
theorem dL_law_480 : decode cL_law 480 = .ok (.invokevirtual 52, 3) := DL_law_462.2.2.2.2.2.2.2.2.2.2.2.2.2.2.2.1
theorem DL_law_483 : dAre cL_law [(483, .pop, 1), (484, .aload_n 2, 1), (485, .aload_n 0, 1), (486, .iload 4, 2), (488, .iconst 1, 1), (489, .iadd, 1), (490, .iaload, 1), (491, .aload_n 0, 1), (492, .iload 4, 2), (494, .iconst 2, 1), (495, .iadd, 1), (496, .iaload, 1), (497, .aload_n 0, 1), (498, .iload 4, 2), (500, .iconst 3, 1), (501, .iadd, 1)] := dAre0 (by decide +kernel)
theorem dL_law_483 : decode cL_law 483 = .ok (.pop, 1) := DL_law_483.1
theorem dL_law_484 : decode cL_law 484 = .ok (.aload_n 2, 1) := DL_law_483.2.1
theorem dL_law_485 : decode cL_law 485 = .ok (.aload_n 0, 1) := DL_law_483.2.2.1
theorem dL_law_486 : decode cL_law 486 = .ok (.iload 4, 2) := DL_law_483.2.2.2.1
theorem dL_law_488 : decode cL_law 488 = .ok (.iconst 1, 1) := DL_law_483.2.2.2.2.1
theorem dL_law_489 : decode cL_law 489 = .ok (.iadd, 1) := DL_law_483.2.2.2.2.2.1
theorem dL_law_490 : decode cL_law 490 = .ok (.iaload, 1) := DL_law_483.2.2.2.2.2.2.1
theorem dL_law_491 : decode cL_law 491 = .ok (.aload_n 0, 1) := DL_law_483.2.2.2.2.2.2.2.1
theorem dL_law_492 : decode cL_law 492 = .ok (.iload 4, 2) := DL_law_483.2.2.2.2.2.2.2.2.1
theorem dL_law_494 : decode cL_law 494 = .ok (.iconst 2, 1) := DL_law_483.2.2.2.2.2.2.2.2.2.1
theorem dL_law_495 : decode cL_law 495 = .ok (.iadd, 1) := DL_law_483.2.2.2.2.2.2.2.2.2.2.1
theorem dL_law_496 : decode cL_law 496 = .ok (.iaload, 1) := DL_law_483.2.2.2.2.2.2.2.2.2.2.2.1
theorem dL_law_497 : decode cL_law 497 = .ok (.aload_n 0, 1) := DL_law_483.2.2.2.2.2.2.2.2.2.2.2.2.1
theorem dL_law_498 : decode cL_law 498 = .ok (.iload 4, 2) := DL_law_483.2.2.2.2.2.2.2.2.2.2.2.2.2.1
theorem dL_law_500 : decode cL_law 500 = .ok (.iconst 3, 1) := DL_law_483.2.2.2.2.2.2.2.2.2.2.2.2.2.2.1
theorem dL_law_501 : decode cL_law 501 = .ok (.iadd, 1) := DL_law_483.2.2.2.2.2.2.2.2.2.2.2.2.2.2.2.1
theorem DL_law_502 : dAre cL_law [(502, .iaload, 1), (503, .invokevirtual 56, 3), (506, .pop, 1), (507, .goto 1125, 3), (510, .aload_n 1, 1), (511, .invokevirtual 57, 3), (514, .pop, 1), (515, .aload_n 2, 1), (516, .invokevirtual 60, 3), (519, .pop, 1), (520, .goto 1112, 3), (523, .aload_n 1, 1), (524, .aload_n 0, 1), (525, .iload 4, 2), (527, .iconst 1, 1), (528, .iadd, 1)] := dAre0 (by decide +kernel)
theorem dL_law_502 : decode cL_law 502 = .ok (.iaload, 1) := DL_law_502.1
theorem dL_law_503 : decode cL_law 503 = .ok (.invokevirtual 56, 3) := DL_law_502.2.1
theorem dL_law_506 : decode cL_law 506 = .ok (.pop, 1) := DL_law_502.2.2.1
theorem dL_law_507 : decode cL_law 507 = .ok (.goto 1125, 3) := DL_law_502.2.2.2.1
theorem dL_law_510 : decode cL_law 510 = .ok (.aload_n 1, 1) := DL_law_502.2.2.2.2.1
theorem dL_law_511 : decode cL_law 511 = .ok (.invokevirtual 57, 3) := DL_law_502.2.2.2.2.2.1
theorem dL_law_514 : decode cL_law 514 = .ok (.pop, 1) := DL_law_502.2.2.2.2.2.2.1
theorem dL_law_515 : decode cL_law 515 = .ok (.aload_n 2, 1) := DL_law_502.2.2.2.2.2.2.2.1
theorem dL_law_516 : decode cL_law 516 = .ok (.invokevirtual 60, 3) := DL_law_502.2.2.2.2.2.2.2.2.1
theorem dL_law_519 : decode cL_law 519 = .ok (.pop, 1) := DL_law_502.2.2.2.2.2.2.2.2.2.1
theorem dL_law_520 : decode cL_law 520 = .ok (.goto 1112, 3) := DL_law_502.2.2.2.2.2.2.2.2.2.2.1
theorem dL_law_523 : decode cL_law 523 = .ok (.aload_n 1, 1) := DL_law_502.2.2.2.2.2.2.2.2.2.2.2.1
theorem dL_law_524 : decode cL_law 524 = .ok (.aload_n 0, 1) := DL_law_502.2.2.2.2.2.2.2.2.2.2.2.2.1
theorem dL_law_525 : decode cL_law 525 = .ok (.iload 4, 2) := DL_law_502.2.2.2.2.2.2.2.2.2.2.2.2.2.1
theorem dL_law_527 : decode cL_law 527 = .ok (.iconst 1, 1) := DL_law_502.2.2.2.2.2.2.2.2.2.2.2.2.2.2.1
theorem dL_law_528 : decode cL_law 528 = .ok (.iadd, 1) := DL_law_502.2.2.2.2.2.2.2.2.2.2.2.2.2.2.2.1
theorem DL_law_529 : dAre cL_law [(529, .iaload, 1), (530, .aload_n 0, 1), (531, .iload 4, 2), (533, .iconst 2, 1), (534, .iadd, 1), (535, .iaload, 1), (536, .invokevirtual 61, 3), (539, .pop, 1), (540, .aload_n 2, 1), (541, .aload_n 0, 1), (542, .iload 4, 2), (544, .iconst 1, 1), (545, .iadd, 1), (546, .iaload, 1), (547, .aload_n 0, 1), (548, .iload 4, 2)] := dAre0 (by decide +kernel)
theorem dL_law_529 : decode cL_law 529 = .ok (.iaload, 1) := DL_law_529.1
theorem dL_law_530 : decode cL_law 530 = .ok (.aload_n 0, 1) := DL_law_529.2.1
theorem dL_law_531 : decode cL_law 531 = .ok (.iload 4, 2) := DL_law_529.2.2.1
theorem dL_law_533 : decode cL_law 533 = .ok (.iconst 2, 1) := DL_law_529.2.2.2.1
theorem dL_law_534 : decode cL_law 534 = .ok (.iadd, 1) := DL_law_529.2.2.2.2.1
theorem dL_law_535 : decode cL_law 535 = .ok (.iaload, 1) := DL_law_529.2.2.2.2.2.1
theorem dL_law_536 : decode cL_law 536 = .ok (.invokevirtual 61, 3) := DL_law_529.2.2.2.2.2.2.1
theorem dL_law_539 : decode cL_law 539 = .ok (.pop, 1) := DL_law_529.2.2.2.2.2.2.2.1
theorem dL_law_540 : decode cL_law 540 = .ok (.aload_n 2, 1) := DL_law_529.2.2.2.2.2.2.2.2.1
theorem dL_law_541 : decode cL_law 541 = .ok (.aload_n 0, 1) := DL_law_529.2.2.2.2.2.2.2.2.2.1
theorem dL_law_542 : decode cL_law 542 = .ok (.iload 4, 2) := DL_law_529.2.2.2.2.2.2.2.2.2.2.1
theorem dL_law_544 : decode cL_law 544 = .ok (.iconst 1, 1) := DL_law_529.2.2.2.2.2.2.2.2.2.2.2.1
theorem dL_law_545 : decode cL_law 545 = .ok (.iadd, 1) := DL_law_529.2.2.2.2.2.2.2.2.2.2.2.2.1
theorem dL_law_546 : decode cL_law 546 = .ok (.iaload, 1) := DL_law_529.2.2.2.2.2.2.2.2.2.2.2.2.2.1
theorem dL_law_547 : decode cL_law 547 = .ok (.aload_n 0, 1) := DL_law_529.2.2.2.2.2.2.2.2.2.2.2.2.2.2.1
theorem dL_law_548 : decode cL_law 548 = .ok (.iload 4, 2) := DL_law_529.2.2.2.2.2.2.2.2.2.2.2.2.2.2.2.1
theorem DL_law_550 : dAre cL_law [(550, .iconst 2, 1), (551, .iadd, 1), (552, .iaload, 1), (553, .invokevirtual 64, 3), (556, .pop, 1), (557, .goto 1075, 3), (560, .aload_n 1, 1), (561, .invokevirtual 65, 3), (564, .pop, 1), (565, .aload_n 2, 1), (566, .invokevirtual 68, 3), (569, .pop, 1), (570, .goto 1062, 3), (573, .aload_n 1, 1), (574, .aload_n 0, 1), (575, .iload 4, 2)] := dAre0 (by decide +kernel)
theorem dL_law_550 : decode cL_law 550 = .ok (.iconst 2, 1) := DL_law_550.1
theorem dL_law_551 : decode cL_law 551 = .ok (.iadd, 1) := DL_law_550.2.1
theorem dL_law_552 : decode cL_law 552 = .ok (.iaload, 1) := DL_law_550.2.2.1
theorem dL_law_553 : decode cL_law 553 = .ok (.invokevirtual 64, 3) := DL_law_550.2.2.2.1
theorem dL_law_556 : decode cL_law 556 = .ok (.pop, 1) := DL_law_550.2.2.2.2.1
theorem dL_law_557 : decode cL_law 557 = .ok (.goto 1075, 3) := DL_law_550.2.2.2.2.2.1
theorem dL_law_560 : decode cL_law 560 = .ok (.aload_n 1, 1) := DL_law_550.2.2.2.2.2.2.1
theorem dL_law_561 : decode cL_law 561 = .ok (.invokevirtual 65, 3) := DL_law_550.2.2.2.2.2.2.2.1
theorem dL_law_564 : decode cL_law 564 = .ok (.pop, 1) := DL_law_550.2.2.2.2.2.2.2.2.1
theorem dL_law_565 : decode cL_law 565 = .ok (.aload_n 2, 1) := DL_law_550.2.2.2.2.2.2.2.2.2.1
theorem dL_law_566 : decode cL_law 566 = .ok (.invokevirtual 68, 3) := DL_law_550.2.2.2.2.2.2.2.2.2.2.1
theorem dL_law_569 : decode cL_law 569 = .ok (.pop, 1) := DL_law_550.2.2.2.2.2.2.2.2.2.2.2.1
theorem dL_law_570 : decode cL_law 570 = .ok (.goto 1062, 3) := DL_law_550.2.2.2.2.2.2.2.2.2.2.2.2.1
theorem dL_law_573 : decode cL_law 573 = .ok (.aload_n 1, 1) := DL_law_550.2.2.2.2.2.2.2.2.2.2.2.2.2.1
theorem dL_law_574 : decode cL_law 574 = .ok (.aload_n 0, 1) := DL_law_550.2.2.2.2.2.2.2.2.2.2.2.2.2.2.1
theorem dL_law_575 : decode cL_law 575 = .ok (.iload 4, 2) := DL_law_550.2.2.2.2.2.2.2.2.2.2.2.2.2.2.2.1
theorem DL_law_577 : dAre cL_law [(577, .iconst 1, 1), (578, .iadd, 1), (579, .iaload, 1), (580, .invokevirtual 69, 3), (583, .pop, 1), (584, .aload_n 2, 1), (585, .aload_n 0, 1), (586, .iload 4, 2), (588, .iconst 1, 1), (589, .iadd, 1), (590, .iaload, 1), (591, .invokevirtual 72, 3), (594, .pop, 1), (595, .goto 1037, 3), (598, .aload_n 1, 1), (599, .aload_n 0, 1)] := dAre0 (by decide +kernel)
theorem dL_law_577 : decode cL_law 577 = .ok (.iconst 1, 1) := DL_law_577.1
theorem dL_law_578 : decode cL_law 578 = .ok (.iadd, 1) := DL_law_577.2.1
theorem dL_law_579 : decode cL_law 579 = .ok (.iaload, 1) := DL_law_577.2.2.1
theorem dL_law_580 : decode cL_law 580 = .ok (.invokevirtual 69, 3) := DL_law_577.2.2.2.1
theorem dL_law_583 : decode cL_law 583 = .ok (.pop, 1) := DL_law_577.2.2.2.2.1
theorem dL_law_584 : decode cL_law 584 = .ok (.aload_n 2, 1) := DL_law_577.2.2.2.2.2.1
theorem dL_law_585 : decode cL_law 585 = .ok (.aload_n 0, 1) := DL_law_577.2.2.2.2.2.2.1
theorem dL_law_586 : decode cL_law 586 = .ok (.iload 4, 2) := DL_law_577.2.2.2.2.2.2.2.1
theorem dL_law_588 : decode cL_law 588 = .ok (.iconst 1, 1) := DL_law_577.2.2.2.2.2.2.2.2.1
theorem dL_law_589 : decode cL_law 589 = .ok (.iadd, 1) := DL_law_577.2.2.2.2.2.2.2.2.2.1
theorem dL_law_590 : decode cL_law 590 = .ok (.iaload, 1) := DL_law_577.2.2.2.2.2.2.2.2.2.2.1
theorem dL_law_591 : decode cL_law 591 = .ok (.invokevirtual 72, 3) := DL_law_577.2.2.2.2.2.2.2.2.2.2.2.1
theorem dL_law_594 : decode cL_law 594 = .ok (.pop, 1) := DL_law_577.2.2.2.2.2.2.2.2.2.2.2.2.1
theorem dL_law_595 : decode cL_law 595 = .ok (.goto 1037, 3) := DL_law_577.2.2.2.2.2.2.2.2.2.2.2.2.2.1
theorem dL_law_598 : decode cL_law 598 = .ok (.aload_n 1, 1) := DL_law_577.2.2.2.2.2.2.2.2.2.2.2.2.2.2.1
theorem dL_law_599 : decode cL_law 599 = .ok (.aload_n 0, 1) := DL_law_577.2.2.2.2.2.2.2.2.2.2.2.2.2.2.2.1
theorem DL_law_600 : dAre cL_law [(600, .iload 4, 2), (602, .iconst 1, 1), (603, .iadd, 1), (604, .iaload, 1), (605, .invokevirtual 73, 3), (608, .pop, 1), (609, .aload_n 2, 1), (610, .aload_n 0, 1), (611, .iload 4, 2), (613, .iconst 1, 1), (614, .iadd, 1), (615, .iaload, 1), (616, .invokevirtual 76, 3), (619, .pop, 1), (620, .goto 1012, 3), (623, .aload_n 1, 1)] := dAre0 (by decide +kernel)
theorem dL_law_600 : decode cL_law 600 = .ok (.iload 4, 2) := DL_law_600.1
theorem dL_law_602 : decode cL_law 602 = .ok (.iconst 1, 1) := DL_law_600.2.1
theorem dL_law_603 : decode cL_law 603 = .ok (.iadd, 1) := DL_law_600.2.2.1
theorem dL_law_604 : decode cL_law 604 = .ok (.iaload, 1) := DL_law_600.2.2.2.1
theorem dL_law_605 : decode cL_law 605 = .ok (.invokevirtual 73, 3) := DL_law_600.2.2.2.2.1
theorem dL_law_608 : decode cL_law 608 = .ok (.pop, 1) := DL_law_600.2.2.2.2.2.1
theorem dL_law_609 : decode cL_law 609 = .ok (.aload_n 2, 1) := DL_law_600.2.2.2.2.2.2.1
theorem dL_law_610 : decode cL_law 610 = .ok (.aload_n 0, 1) := DL_law_600.2.2.2.2.2.2.2.1
theorem dL_law_611 : decode cL_law 611 = .ok (.iload 4, 2) := DL_law_600.2.2.2.2.2.2.2.2.1
theorem dL_law_613 : decode cL_law 613 = .ok (.iconst 1, 1) := DL_law_600.2.2.2.2.2.2.2.2.2.1
theorem dL_law_614 : decode cL_law 614 = .ok (.iadd, 1) := DL_law_600.2.2.2.2.2.2.2.2.2.2.1
theorem dL_law_615 : decode cL_law 615 = .ok (.iaload, 1) := DL_law_600.2.2.2.2.2.2.2.2.2.2.2.1
theorem dL_law_616 : decode cL_law 616 = .ok (.invokevirtual 76, 3) := DL_law_600.2.2.2.2.2.2.2.2.2.2.2.2.1
theorem dL_law_619 : decode cL_law 619 = .ok (.pop, 1) := DL_law_600.2.2.2.2.2.2.2.2.2.2.2.2.2.1
theorem dL_law_620 : decode cL_law 620 = .ok (.goto 1012, 3) := DL_law_600.2.2.2.2.2.2.2.2.2.2.2.2.2.2.1
theorem dL_law_623 : decode cL_law 623 = .ok (.aload_n 1, 1) := DL_law_600.2.2.2.2.2.2.2.2.2.2.2.2.2.2.2.1
theorem DL_law_624 : dAre cL_law [(624, .invokevirtual 77, 3), (627, .pop, 1), (628, .aload_n 2, 1), (629, .invokevirtual 80, 3), (632, .pop, 1), (633, .goto 999, 3), (636, .aload_n 1, 1), (637, .aload_n 0, 1), (638, .iload 4, 2), (640, .iconst 1, 1), (641, .iadd, 1), (642, .iaload, 1), (643, .invokevirtual 81, 3), (646, .pop, 1), (647, .aload_n 2, 1), (648, .aload_n 0, 1)] := dAre0 (by decide +kernel)
theorem dL_law_624 : decode cL_law 624 = .ok (.invokevirtual 77, 3) := DL_law_624.1
theorem dL_law_627 : decode cL_law 627 = .ok (.pop, 1) := DL_law_624.2.1
theorem dL_law_628 : decode cL_law 628 = .ok (.aload_n 2, 1) := DL_law_624.2.2.1
theorem dL_law_629 : decode cL_law 629 = .ok (.invokevirtual 80, 3) := DL_law_624.2.2.2.1
theorem dL_law_632 : decode cL_law 632 = .ok (.pop, 1) := DL_law_624.2.2.2.2.1
theorem dL_law_633 : decode cL_law 633 = .ok (.goto 999, 3) := DL_law_624.2.2.2.2.2.1
theorem dL_law_636 : decode cL_law 636 = .ok (.aload_n 1, 1) := DL_law_624.2.2.2.2.2.2.1
theorem dL_law_637 : decode cL_law 637 = .ok (.aload_n 0, 1) := DL_law_624.2.2.2.2.2.2.2.1
theorem dL_law_638 : decode cL_law 638 = .ok (.iload 4, 2) := DL_law_624.2.2.2.2.2.2.2.2.1
theorem dL_law_640 : decode cL_law 640 = .ok (.iconst 1, 1) := DL_law_624.2.2.2.2.2.2.2.2.2.1
theorem dL_law_641 : decode cL_law 641 = .ok (.iadd, 1) := DL_law_624.2.2.2.2.2.2.2.2.2.2.1
theorem dL_law_642 : decode cL_law 642 = .ok (.iaload, 1) := DL_law_624.2.2.2.2.2.2.2.2.2.2.2.1
theorem dL_law_643 : decode cL_law 643 = .ok (.invokevirtual 81, 3) := DL_law_624.2.2.2.2.2.2.2.2.2.2.2.2.1
theorem dL_law_646 : decode cL_law 646 = .ok (.pop, 1) := DL_law_624.2.2.2.2.2.2.2.2.2.2.2.2.2.1
theorem dL_law_647 : decode cL_law 647 = .ok (.aload_n 2, 1) := DL_law_624.2.2.2.2.2.2.2.2.2.2.2.2.2.2.1
theorem dL_law_648 : decode cL_law 648 = .ok (.aload_n 0, 1) := DL_law_624.2.2.2.2.2.2.2.2.2.2.2.2.2.2.2.1
theorem DL_law_649 : dAre cL_law [(649, .iload 4, 2), (651, .iconst 1, 1), (652, .iadd, 1), (653, .iaload, 1), (654, .invokevirtual 84, 3), (657, .pop, 1), (658, .goto 974, 3), (661, .aload_n 1, 1), (662, .aload_n 0, 1), (663, .iload 4, 2), (665, .iconst 1, 1), (666, .iadd, 1), (667, .iaload, 1), (668, .invokevirtual 85, 3), (671, .pop, 1), (672, .aload_n 2, 1)] := dAre0 (by decide +kernel)
theorem dL_law_649 : decode cL_law 649 = .ok (.iload 4, 2) := DL_law_649.1
theorem dL_law_651 : decode cL_law 651 = .ok (.iconst 1, 1) := DL_law_649.2.1
theorem dL_law_652 : decode cL_law 652 = .ok (.iadd, 1) := DL_law_649.2.2.1
theorem dL_law_653 : decode cL_law 653 = .ok (.iaload, 1) := DL_law_649.2.2.2.1
theorem dL_law_654 : decode cL_law 654 = .ok (.invokevirtual 84, 3) := DL_law_649.2.2.2.2.1
theorem dL_law_657 : decode cL_law 657 = .ok (.pop, 1) := DL_law_649.2.2.2.2.2.1
theorem dL_law_658 : decode cL_law 658 = .ok (.goto 974, 3) := DL_law_649.2.2.2.2.2.2.1
theorem dL_law_661 : decode cL_law 661 = .ok (.aload_n 1, 1) := DL_law_649.2.2.2.2.2.2.2.1
theorem dL_law_662 : decode cL_law 662 = .ok (.aload_n 0, 1) := DL_law_649.2.2.2.2.2.2.2.2.1
theorem dL_law_663 : decode cL_law 663 = .ok (.iload 4, 2) := DL_law_649.2.2.2.2.2.2.2.2.2.1
theorem dL_law_665 : decode cL_law 665 = .ok (.iconst 1, 1) := DL_law_649.2.2.2.2.2.2.2.2.2.2.1
theorem dL_law_666 : decode cL_law 666 = .ok (.iadd, 1) := DL_law_649.2.2.2.2.2.2.2.2.2.2.2.1
theorem dL_law_667 : decode cL_law 667 = .ok (.iaload, 1) := DL_law_649.2.2.2.2.2.2.2.2.2.2.2.2.1
theorem dL_law_668 : decode cL_law 668 = .ok (.invokevirtual 85, 3) := DL_law_649.2.2.2.2.2.2.2.2.2.2.2.2.2.1
theorem dL_law_671 : decode cL_law 671 = .ok (.pop, 1) := DL_law_649.2.2.2.2.2.2.2.2.2.2.2.2.2.2.1
theorem dL_law_672 : decode cL_law 672 = .ok (.aload_n 2, 1) := DL_law_649.2.2.2.2.2.2.2.2.2.2.2.2.2.2.2.1
theorem DL_law_673 : dAre cL_law [(673, .aload_n 0, 1), (674, .iload 4, 2), (676, .iconst 1, 1), (677, .iadd, 1), (678, .iaload, 1), (679, .invokevirtual 88, 3), (682, .pop, 1), (683, .goto 949, 3), (686, .aload_n 1, 1), (687, .aload_n 0, 1), (688, .iload 4, 2), (690, .iconst 1, 1), (691, .iadd, 1), (692, .iaload, 1), (693, .invokevirtual 89, 3), (696, .pop, 1)] := dAre0 (by decide +kernel)
theorem dL_law_673 : decode cL_law 673 = .ok (.aload_n 0, 1) := DL_law_673.1
theorem dL_law_674 : decode cL_law 674 = .ok (.iload 4, 2) := DL_law_673.2.1
theorem dL_law_676 : decode cL_law 676 = .ok (.iconst 1, 1) := DL_law_673.2.2.1
theorem dL_law_677 : decode cL_law 677 = .ok (.iadd, 1) := DL_law_673.2.2.2.1
theorem dL_law_678 : decode cL_law 678 = .ok (.iaload, 1) := DL_law_673.2.2.2.2.1
theorem dL_law_679 : decode cL_law 679 = .ok (.invokevirtual 88, 3) := DL_law_673.2.2.2.2.2.1
theorem dL_law_682 : decode cL_law 682 = .ok (.pop, 1) := DL_law_673.2.2.2.2.2.2.1
theorem dL_law_683 : decode cL_law 683 = .ok (.goto 949, 3) := DL_law_673.2.2.2.2.2.2.2.1
theorem dL_law_686 : decode cL_law 686 = .ok (.aload_n 1, 1) := DL_law_673.2.2.2.2.2.2.2.2.1
theorem dL_law_687 : decode cL_law 687 = .ok (.aload_n 0, 1) := DL_law_673.2.2.2.2.2.2.2.2.2.1
theorem dL_law_688 : decode cL_law 688 = .ok (.iload 4, 2) := DL_law_673.2.2.2.2.2.2.2.2.2.2.1
theorem dL_law_690 : decode cL_law 690 = .ok (.iconst 1, 1) := DL_law_673.2.2.2.2.2.2.2.2.2.2.2.1
theorem dL_law_691 : decode cL_law 691 = .ok (.iadd, 1) := DL_law_673.2.2.2.2.2.2.2.2.2.2.2.2.1
theorem dL_law_692 : decode cL_law 692 = .ok (.iaload, 1) := DL_law_673.2.2.2.2.2.2.2.2.2.2.2.2.2.1
theorem dL_law_693 : decode cL_law 693 = .ok (.invokevirtual 89, 3) := DL_law_673.2.2.2.2.2.2.2.2.2.2.2.2.2.2.1
theorem dL_law_696 : decode cL_law 696 = .ok (.pop, 1) := DL_law_673.2.2.2.2.2.2.2.2.2.2.2.2.2.2.2.1
theorem DL_law_697 : dAre cL_law [(697, .aload_n 2, 1), (698, .aload_n 0, 1), (699, .iload 4, 2), (701, .iconst 1, 1), (702, .iadd, 1), (703, .iaload, 1), (704, .invokevirtual 92, 3), (707, .pop, 1), (708, .goto 924, 3), (711, .aload_n 1, 1), (712, .aload_n 0, 1), (713, .iload 4, 2), (715, .iconst 1, 1), (716, .iadd, 1), (717, .iaload, 1), (718, .aload_n 0, 1)] := dAre0 (by decide +kernel)
theorem dL_law_697 : decode cL_law 697 = .ok (.aload_n 2, 1) := DL_law_697.1
theorem dL_law_698 : decode cL_law 698 = .ok (.aload_n 0, 1) := DL_law_697.2.1
theorem dL_law_699 : decode cL_law 699 = .ok (.iload 4, 2) := DL_law_697.2.2.1
theorem dL_law_701 : decode cL_law 701 = .ok (.iconst 1, 1) := DL_law_697.2.2.2.1
theorem dL_law_702 : decode cL_law 702 = .ok (.iadd, 1) := DL_law_697.2.2.2.2.1
theorem dL_law_703 : decode cL_law 703 = .ok (.iaload, 1) := DL_law_697.2.2.2.2.2.1
theorem dL_law_704 : decode cL_law 704 = .ok (.invokevirtual 92, 3) := DL_law_697.2.2.2.2.2.2.1
theorem dL_law_707 : decode cL_law 707 = .ok (.pop, 1) := DL_law_697.2.2.2.2.2.2.2.1
theorem dL_law_708 : decode cL_law 708 = .ok (.goto 924, 3) := DL_law_697.2.2.2.2.2.2.2.2.1
theorem dL_law_711 : decode cL_law 711 = .ok (.aload_n 1, 1) := DL_law_697.2.2.2.2.2.2.2.2.2.1
theorem dL_law_712 : decode cL_law 712 = .ok (.aload_n 0, 1) := DL_law_697.2.2.2.2.2.2.2.2.2.2.1
theorem dL_law_713 : decode cL_law 713 = .ok (.iload 4, 2) := DL_law_697.2.2.2.2.2.2.2.2.2.2.2.1
theorem dL_law_715 : decode cL_law 715 = .ok (.iconst 1, 1) := DL_law_697.2.2.2.2.2.2.2.2.2.2.2.2.1
theorem dL_law_716 : decode cL_law 716 = .ok (.iadd, 1) := DL_law_697.2.2.2.2.2.2.2.2.2.2.2.2.2.1
theorem dL_law_717 : decode cL_law 717 = .ok (.iaload, 1) := DL_law_697.2.2.2.2.2.2.2.2.2.2.2.2.2.2.1
theorem dL_law_718 : decode cL_law 718 = .ok (.aload_n 0, 1) := DL_law_697.2.2.2.2.2.2.2.2.2.2.2.2.2.2.2.1
theorem DL_law_719 : dAre cL_law [(719, .iload 4, 2), (721, .iconst 2, 1), (722, .iadd, 1), (723, .iaload, 1), (724, .invokevirtual 93, 3), (727, .pop, 1), (728, .aload_n 2, 1), (729, .aload_n 0, 1), (730, .iload 4, 2), (732, .iconst 1, 1), (733, .iadd, 1), (734, .iaload, 1), (735, .aload_n 0, 1), (736, .iload 4, 2), (738, .iconst 2, 1), (739, .iadd, 1)] := dAre0 (by decide +kernel)
theorem dL_law_719 : decode cL_law 719 = .ok (.iload 4, 2) := DL_law_719.1
theorem dL_law_721 : decode cL_law 721 = .ok (.iconst 2, 1) := DL_law_719.2.1
theorem dL_law_722 : decode cL_law 722 = .ok (.iadd, 1) := DL_law_719.2.2.1
theorem dL_law_723 : decode cL_law 723 = .ok (.iaload, 1) := DL_law_719.2.2.2.1
theorem dL_law_724 : decode cL_law 724 = .ok (.invokevirtual 93, 3) := DL_law_719.2.2.2.2.1
theorem dL_law_727 : decode cL_law 727 = .ok (.pop, 1) := DL_law_719.2.2.2.2.2.1
theorem dL_law_728 : decode cL_law 728 = .ok (.aload_n 2, 1) := DL_law_719.2.2.2.2.2.2.1
theorem dL_law_729 : decode cL_law 729 = .ok (.aload_n 0, 1) := DL_law_719.2.2.2.2.2.2.2.1
theorem dL_law_730 : decode cL_law 730 = .ok (.iload 4, 2) := DL_law_719.2.2.2.2.2.2.2.2.1
theorem dL_law_732 : decode cL_law 732 = .ok (.iconst 1, 1) := DL_law_719.2.2.2.2.2.2.2.2.2.1
theorem dL_law_733 : decode cL_law 733 = .ok (.iadd, 1) := DL_law_719.2.2.2.2.2.2.2.2.2.2.1
theorem dL_law_734 : decode cL_law 734 = .ok (.iaload, 1) := DL_law_719.2.2.2.2.2.2.2.2.2.2.2.1
theorem dL_law_735 : decode cL_law 735 = .ok (.aload_n 0, 1) := DL_law_719.2.2.2.2.2.2.2.2.2.2.2.2.1
theorem dL_law_736 : decode cL_law 736 = .ok (.iload 4, 2) := DL_law_719.2.2.2.2.2.2.2.2.2.2.2.2.2.1
theorem dL_law_738 : decode cL_law 738 = .ok (.iconst 2, 1) := DL_law_719.2.2.2.2.2.2.2.2.2.2.2.2.2.2.1
theorem dL_law_739 : decode cL_law 739 = .ok (.iadd, 1) := DL_law_719.2.2.2.2.2.2.2.2.2.2.2.2.2.2.2.1
theorem DL_law_740 : dAre cL_law [(740, .iaload, 1), (741, .invokevirtual 96, 3), (744, .pop, 1), (745, .goto 887, 3), (748, .aload_n 1, 1), (749, .aload_n 0, 1), (750, .iload 4, 2), (752, .iconst 1, 1), (753, .iadd, 1), (754, .iaload, 1), (755, .aload_n 0, 1), (756, .iload 4, 2), (758, .iconst 2, 1), (759, .iadd, 1), (760, .iaload, 1), (761, .invokevirtual 97, 3)] := dAre0 (by decide +kernel)
theorem dL_law_740 : decode cL_law 740 = .ok (.iaload, 1) := DL_law_740.1
theorem dL_law_741 : decode cL_law 741 = .ok (.invokevirtual 96, 3) := DL_law_740.2.1
theorem dL_law_744 : decode cL_law 744 = .ok (.pop, 1) := DL_law_740.2.2.1
theorem dL_law_745 : decode cL_law 745 = .ok (.goto 887, 3) := DL_law_740.2.2.2.1
theorem dL_law_748 : decode cL_law 748 = .ok (.aload_n 1, 1) := DL_law_740.2.2.2.2.1
theorem dL_law_749 : decode cL_law 749 = .ok (.aload_n 0, 1) := DL_law_740.2.2.2.2.2.1
theorem dL_law_750 : decode cL_law 750 = .ok (.iload 4, 2) := DL_law_740.2.2.2.2.2.2.1
theorem dL_law_752 : decode cL_law 752 = .ok (.iconst 1, 1) := DL_law_740.2.2.2.2.2.2.2.1
theorem dL_law_753 : decode cL_law 753 = .ok (.iadd, 1) := DL_law_740.2.2.2.2.2.2.2.2.1
theorem dL_law_754 : decode cL_law 754 = .ok (.iaload, 1) := DL_law_740.2.2.2.2.2.2.2.2.2.1
theorem dL_law_755 : decode cL_law 755 = .ok (.aload_n 0, 1) := DL_law_740.2.2.2.2.2.2.2.2.2.2.1
theorem dL_law_756 : decode cL_law 756 = .ok (.iload 4, 2) := DL_law_740.2.2.2.2.2.2.2.2.2.2.2.1
theorem dL_law_758 : decode cL_law 758 = .ok (.iconst 2, 1) := DL_law_740.2.2.2.2.2.2.2.2.2.2.2.2.1
theorem dL_law_759 : decode cL_law 759 = .ok (.iadd, 1) := DL_law_740.2.2.2.2.2.2.2.2.2.2.2.2.2.1
theorem dL_law_760 : decode cL_law 760 = .ok (.iaload, 1) := DL_law_740.2.2.2.2.2.2.2.2.2.2.2.2.2.2.1
theorem dL_law_761 : decode cL_law 761 = .ok (.invokevirtual 97, 3) := DL_law_740.2.2.2.2.2.2.2.2.2.2.2.2.2.2.2.1
theorem DL_law_764 : dAre cL_law [(764, .pop, 1), (765, .aload_n 2, 1), (766, .aload_n 0, 1), (767, .iload 4, 2), (769, .iconst 1, 1), (770, .iadd, 1), (771, .iaload, 1), (772, .aload_n 0, 1), (773, .iload 4, 2), (775, .iconst 2, 1), (776, .iadd, 1), (777, .iaload, 1), (778, .invokevirtual 100, 3), (781, .pop, 1), (782, .goto 850, 3), (785, .aload_n 1, 1)] := dAre0 (by decide +kernel)
theorem dL_law_764 : decode cL_law 764 = .ok (.pop, 1) := DL_law_764.1
theorem dL_law_765 : decode cL_law 765 = .ok (.aload_n 2, 1) := DL_law_764.2.1
theorem dL_law_766 : decode cL_law 766 = .ok (.aload_n 0, 1) := DL_law_764.2.2.1
theorem dL_law_767 : decode cL_law 767 = .ok (.iload 4, 2) := DL_law_764.2.2.2.1
theorem dL_law_769 : decode cL_law 769 = .ok (.iconst 1, 1) := DL_law_764.2.2.2.2.1
theorem dL_law_770 : decode cL_law 770 = .ok (.iadd, 1) := DL_law_764.2.2.2.2.2.1
theorem dL_law_771 : decode cL_law 771 = .ok (.iaload, 1) := DL_law_764.2.2.2.2.2.2.1
theorem dL_law_772 : decode cL_law 772 = .ok (.aload_n 0, 1) := DL_law_764.2.2.2.2.2.2.2.1
theorem dL_law_773 : decode cL_law 773 = .ok (.iload 4, 2) := DL_law_764.2.2.2.2.2.2.2.2.1
theorem dL_law_775 : decode cL_law 775 = .ok (.iconst 2, 1) := DL_law_764.2.2.2.2.2.2.2.2.2.1
theorem dL_law_776 : decode cL_law 776 = .ok (.iadd, 1) := DL_law_764.2.2.2.2.2.2.2.2.2.2.1
theorem dL_law_777 : decode cL_law 777 = .ok (.iaload, 1) := DL_law_764.2.2.2.2.2.2.2.2.2.2.2.1
theorem dL_law_778 : decode cL_law 778 = .ok (.invokevirtual 100, 3) := DL_law_764.2.2.2.2.2.2.2.2.2.2.2.2.1
theorem dL_law_781 : decode cL_law 781 = .ok (.pop, 1) := DL_law_764.2.2.2.2.2.2.2.2.2.2.2.2.2.1
theorem dL_law_782 : decode cL_law 782 = .ok (.goto 850, 3) := DL_law_764.2.2.2.2.2.2.2.2.2.2.2.2.2.2.1
theorem dL_law_785 : decode cL_law 785 = .ok (.aload_n 1, 1) := DL_law_764.2.2.2.2.2.2.2.2.2.2.2.2.2.2.2.1
theorem DL_law_786 : dAre cL_law [(786, .aload_n 0, 1), (787, .iload 4, 2), (789, .iconst 1, 1), (790, .iadd, 1), (791, .iaload, 1), (792, .aload_n 0, 1), (793, .iload 4, 2), (795, .iconst 2, 1), (796, .iadd, 1), (797, .iaload, 1), (798, .invokevirtual 101, 3), (801, .pop, 1), (802, .aload_n 2, 1), (803, .aload_n 0, 1), (804, .iload 4, 2), (806, .iconst 1, 1)] := dAre0 (by decide +kernel)
theorem dL_law_786 : decode cL_law 786 = .ok (.aload_n 0, 1) := DL_law_786.1
theorem dL_law_787 : decode cL_law 787 = .ok (.iload 4, 2) := DL_law_786.2.1
theorem dL_law_789 : decode cL_law 789 = .ok (.iconst 1, 1) := DL_law_786.2.2.1
theorem dL_law_790 : decode cL_law 790 = .ok (.iadd, 1) := DL_law_786.2.2.2.1
theorem dL_law_791 : decode cL_law 791 = .ok (.iaload, 1) := DL_law_786.2.2.2.2.1
theorem dL_law_792 : decode cL_law 792 = .ok (.aload_n 0, 1) := DL_law_786.2.2.2.2.2.1
theorem dL_law_793 : decode cL_law 793 = .ok (.iload 4, 2) := DL_law_786.2.2.2.2.2.2.1
theorem dL_law_795 : decode cL_law 795 = .ok (.iconst 2, 1) := DL_law_786.2.2.2.2.2.2.2.1
theorem dL_law_796 : decode cL_law 796 = .ok (.iadd, 1) := DL_law_786.2.2.2.2.2.2.2.2.1
theorem dL_law_797 : decode cL_law 797 = .ok (.iaload, 1) := DL_law_786.2.2.2.2.2.2.2.2.2.1
theorem dL_law_798 : decode cL_law 798 = .ok (.invokevirtual 101, 3) := DL_law_786.2.2.2.2.2.2.2.2.2.2.1
theorem dL_law_801 : decode cL_law 801 = .ok (.pop, 1) := DL_law_786.2.2.2.2.2.2.2.2.2.2.2.1
theorem dL_law_802 : decode cL_law 802 = .ok (.aload_n 2, 1) := DL_law_786.2.2.2.2.2.2.2.2.2.2.2.2.1
theorem dL_law_803 : decode cL_law 803 = .ok (.aload_n 0, 1) := DL_law_786.2.2.2.2.2.2.2.2.2.2.2.2.2.1
theorem dL_law_804 : decode cL_law 804 = .ok (.iload 4, 2) := DL_law_786.2.2.2.2.2.2.2.2.2.2.2.2.2.2.1
theorem dL_law_806 : decode cL_law 806 = .ok (.iconst 1, 1) := DL_law_786.2.2.2.2.2.2.2.2.2.2.2.2.2.2.2.1
theorem DL_law_807 : dAre cL_law [(807, .iadd, 1), (808, .iaload, 1), (809, .aload_n 0, 1), (810, .iload 4, 2), (812, .iconst 2, 1), (813, .iadd, 1), (814, .iaload, 1), (815, .invokevirtual 105, 3), (818, .pop, 1), (819, .goto 813, 3), (822, .aload_n 1, 1), (823, .aload_n 0, 1), (824, .iload 4, 2), (826, .iconst 1, 1), (827, .iadd, 1), (828, .iaload, 1)] := dAre0 (by decide +kernel)
theorem dL_law_807 : decode cL_law 807 = .ok (.iadd, 1) := DL_law_807.1
theorem dL_law_808 : decode cL_law 808 = .ok (.iaload, 1) := DL_law_807.2.1
theorem dL_law_809 : decode cL_law 809 = .ok (.aload_n 0, 1) := DL_law_807.2.2.1
theorem dL_law_810 : decode cL_law 810 = .ok (.iload 4, 2) := DL_law_807.2.2.2.1
theorem dL_law_812 : decode cL_law 812 = .ok (.iconst 2, 1) := DL_law_807.2.2.2.2.1
theorem dL_law_813 : decode cL_law 813 = .ok (.iadd, 1) := DL_law_807.2.2.2.2.2.1
theorem dL_law_814 : decode cL_law 814 = .ok (.iaload, 1) := DL_law_807.2.2.2.2.2.2.1
theorem dL_law_815 : decode cL_law 815 = .ok (.invokevirtual 105, 3) := DL_law_807.2.2.2.2.2.2.2.1
theorem dL_law_818 : decode cL_law 818 = .ok (.pop, 1) := DL_law_807.2.2.2.2.2.2.2.2.1
theorem dL_law_819 : decode cL_law 819 = .ok (.goto 813, 3) := DL_law_807.2.2.2.2.2.2.2.2.2.1
theorem dL_law_822 : decode cL_law 822 = .ok (.aload_n 1, 1) := DL_law_807.2.2.2.2.2.2.2.2.2.2.1
theorem dL_law_823 : decode cL_law 823 = .ok (.aload_n 0, 1) := DL_law_807.2.2.2.2.2.2.2.2.2.2.2.1
theorem dL_law_824 : decode cL_law 824 = .ok (.iload 4, 2) := DL_law_807.2.2.2.2.2.2.2.2.2.2.2.2.1
theorem dL_law_826 : decode cL_law 826 = .ok (.iconst 1, 1) := DL_law_807.2.2.2.2.2.2.2.2.2.2.2.2.2.1
theorem dL_law_827 : decode cL_law 827 = .ok (.iadd, 1) := DL_law_807.2.2.2.2.2.2.2.2.2.2.2.2.2.2.1
theorem dL_law_828 : decode cL_law 828 = .ok (.iaload, 1) := DL_law_807.2.2.2.2.2.2.2.2.2.2.2.2.2.2.2.1
theorem DL_law_829 : dAre cL_law [(829, .aload_n 0, 1), (830, .iload 4, 2), (832, .iconst 2, 1), (833, .iadd, 1), (834, .iaload, 1), (835, .aload_n 0, 1), (836, .iload 4, 2), (838, .iconst 3, 1), (839, .iadd, 1), (840, .iaload, 1), (841, .aload_n 0, 1), (842, .iload 4, 2), (844, .iconst 4, 1), (845, .iadd, 1), (846, .iaload, 1), (847, .invokevirtual 106, 3)] := dAre0 (by decide +kernel)
theorem dL_law_829 : decode cL_law 829 = .ok (.aload_n 0, 1) := DL_law_829.1
theorem dL_law_830 : decode cL_law 830 = .ok (.iload 4, 2) := DL_law_829.2.1
theorem dL_law_832 : decode cL_law 832 = .ok (.iconst 2, 1) := DL_law_829.2.2.1
theorem dL_law_833 : decode cL_law 833 = .ok (.iadd, 1) := DL_law_829.2.2.2.1
theorem dL_law_834 : decode cL_law 834 = .ok (.iaload, 1) := DL_law_829.2.2.2.2.1
theorem dL_law_835 : decode cL_law 835 = .ok (.aload_n 0, 1) := DL_law_829.2.2.2.2.2.1
theorem dL_law_836 : decode cL_law 836 = .ok (.iload 4, 2) := DL_law_829.2.2.2.2.2.2.1
theorem dL_law_838 : decode cL_law 838 = .ok (.iconst 3, 1) := DL_law_829.2.2.2.2.2.2.2.1
theorem dL_law_839 : decode cL_law 839 = .ok (.iadd, 1) := DL_law_829.2.2.2.2.2.2.2.2.1
theorem dL_law_840 : decode cL_law 840 = .ok (.iaload, 1) := DL_law_829.2.2.2.2.2.2.2.2.2.1
theorem dL_law_841 : decode cL_law 841 = .ok (.aload_n 0, 1) := DL_law_829.2.2.2.2.2.2.2.2.2.2.1
theorem dL_law_842 : decode cL_law 842 = .ok (.iload 4, 2) := DL_law_829.2.2.2.2.2.2.2.2.2.2.2.1
theorem dL_law_844 : decode cL_law 844 = .ok (.iconst 4, 1) := DL_law_829.2.2.2.2.2.2.2.2.2.2.2.2.1
theorem dL_law_845 : decode cL_law 845 = .ok (.iadd, 1) := DL_law_829.2.2.2.2.2.2.2.2.2.2.2.2.2.1
theorem dL_law_846 : decode cL_law 846 = .ok (.iaload, 1) := DL_law_829.2.2.2.2.2.2.2.2.2.2.2.2.2.2.1
theorem dL_law_847 : decode cL_law 847 = .ok (.invokevirtual 106, 3) := DL_law_829.2.2.2.2.2.2.2.2.2.2.2.2.2.2.2.1
theorem DL_law_850 : dAre cL_law [(850, .pop, 1), (851, .aload_n 2, 1), (852, .aload_n 0, 1), (853, .iload 4, 2), (855, .iconst 1, 1), (856, .iadd, 1), (857, .iaload, 1), (858, .aload_n 0, 1), (859, .iload 4, 2), (861, .iconst 2, 1), (862, .iadd, 1), (863, .iaload, 1), (864, .aload_n 0, 1), (865, .iload 4, 2), (867, .iconst 3, 1), (868, .iadd, 1)] := dAre0 (by decide +kernel)
theorem dL_law_850 : decode cL_law 850 = .ok (.pop, 1) := DL_law_850.1
theorem dL_law_851 : decode cL_law 851 = .ok (.aload_n 2, 1) := DL_law_850.2.1
theorem dL_law_852 : decode cL_law 852 = .ok (.aload_n 0, 1) := DL_law_850.2.2.1
theorem dL_law_853 : decode cL_law 853 = .ok (.iload 4, 2) := DL_law_850.2.2.2.1
theorem dL_law_855 : decode cL_law 855 = .ok (.iconst 1, 1) := DL_law_850.2.2.2.2.1
theorem dL_law_856 : decode cL_law 856 = .ok (.iadd, 1) := DL_law_850.2.2.2.2.2.1
theorem dL_law_857 : decode cL_law 857 = .ok (.iaload, 1) := DL_law_850.2.2.2.2.2.2.1
theorem dL_law_858 : decode cL_law 858 = .ok (.aload_n 0, 1) := DL_law_850.2.2.2.2.2.2.2.1
theorem dL_law_859 : decode cL_law 859 = .ok (.iload 4, 2) := DL_law_850.2.2.2.2.2.2.2.2.1
theorem dL_law_861 : decode cL_law 861 = .ok (.iconst 2, 1) := DL_law_850.2.2.2.2.2.2.2.2.2.1
theorem dL_law_862 : decode cL_law 862 = .ok (.iadd, 1) := DL_law_850.2.2.2.2.2.2.2.2.2.2.1
theorem dL_law_863 : decode cL_law 863 = .ok (.iaload, 1) := DL_law_850.2.2.2.2.2.2.2.2.2.2.2.1
theorem dL_law_864 : decode cL_law 864 = .ok (.aload_n 0, 1) := DL_law_850.2.2.2.2.2.2.2.2.2.2.2.2.1
theorem dL_law_865 : decode cL_law 865 = .ok (.iload 4, 2) := DL_law_850.2.2.2.2.2.2.2.2.2.2.2.2.2.1
theorem dL_law_867 : decode cL_law 867 = .ok (.iconst 3, 1) := DL_law_850.2.2.2.2.2.2.2.2.2.2.2.2.2.2.1
theorem dL_law_868 : decode cL_law 868 = .ok (.iadd, 1) := DL_law_850.2.2.2.2.2.2.2.2.2.2.2.2.2.2.2.1
theorem DL_law_869 : dAre cL_law [(869, .iaload, 1), (870, .aload_n 0, 1), (871, .iload 4, 2), (873, .iconst 4, 1), (874, .iadd, 1), (875, .iaload, 1), (876, .invokevirtual 110, 3), (879, .pop, 1), (880, .goto 752, 3), (883, .aload_n 1, 1), (884, .aload_n 0, 1), (885, .iload 4, 2), (887, .iconst 1, 1), (888, .iadd, 1), (889, .iaload, 1), (890, .aload_n 0, 1)] := dAre0 (by decide +kernel)
theorem dL_law_869 : decode cL_law 869 = .ok (.iaload, 1) := DL_law_869.1
theorem dL_law_870 : decode cL_law 870 = .ok (.aload_n 0, 1) := DL_law_869.2.1
theorem dL_law_871 : decode cL_law 871 = .ok (.iload 4, 2) := DL_law_869.2.2.1
theorem dL_law_873 : decode cL_law 873 = .ok (.iconst 4, 1) := DL_law_869.2.2.2.1
theorem dL_law_874 : decode cL_law 874 = .ok (.iadd, 1) := DL_law_869.2.2.2.2.1
theorem dL_law_875 : decode cL_law 875 = .ok (.iaload, 1) := DL_law_869.2.2.2.2.2.1
theorem dL_law_876 : decode cL_law 876 = .ok (.invokevirtual 110, 3) := DL_law_869.2.2.2.2.2.2.1
theorem dL_law_879 : decode cL_law 879 = .ok (.pop, 1) := DL_law_869.2.2.2.2.2.2.2.1
theorem dL_law_880 : decode cL_law 880 = .ok (.goto 752, 3) := DL_law_869.2.2.2.2.2.2.2.2.1
theorem dL_law_883 : decode cL_law 883 = .ok (.aload_n 1, 1) := DL_law_869.2.2.2.2.2.2.2.2.2.1
theorem dL_law_884 : decode cL_law 884 = .ok (.aload_n 0, 1) := DL_law_869.2.2.2.2.2.2.2.2.2.2.1
theorem dL_law_885 : decode cL_law 885 = .ok (.iload 4, 2) := DL_law_869.2.2.2.2.2.2.2.2.2.2.2.1
theorem dL_law_887 : decode cL_law 887 = .ok (.iconst 1, 1) := DL_law_869.2.2.2.2.2.2.2.2.2.2.2.2.1
theorem dL_law_888 : decode cL_law 888 = .ok (.iadd, 1) := DL_law_869.2.2.2.2.2.2.2.2.2.2.2.2.2.1
theorem dL_law_889 : decode cL_law 889 = .ok (.iaload, 1) := DL_law_869.2.2.2.2.2.2.2.2.2.2.2.2.2.2.1
theorem dL_law_890 : decode cL_law 890 = .ok (.aload_n 0, 1) := DL_law_869.2.2.2.2.2.2.2.2.2.2.2.2.2.2.2.1
theorem DL_law_891 : dAre cL_law [(891, .iload 4, 2), (893, .iconst 2, 1), (894, .iadd, 1), (895, .iaload, 1), (896, .aload_n 0, 1), (897, .iload 4, 2), (899, .iconst 3, 1), (900, .iadd, 1), (901, .iaload, 1), (902, .aload_n 0, 1), (903, .iload 4, 2), (905, .iconst 4, 1), (906, .iadd, 1), (907, .iaload, 1), (908, .invokevirtual 111, 3), (911, .pop, 1)] := dAre0 (by decide +kernel)
theorem dL_law_891 : decode cL_law 891 = .ok (.iload 4, 2) := DL_law_891.1
theorem dL_law_893 : decode cL_law 893 = .ok (.iconst 2, 1) := DL_law_891.2.1
theorem dL_law_894 : decode cL_law 894 = .ok (.iadd, 1) := DL_law_891.2.2.1
theorem dL_law_895 : decode cL_law 895 = .ok (.iaload, 1) := DL_law_891.2.2.2.1
theorem dL_law_896 : decode cL_law 896 = .ok (.aload_n 0, 1) := DL_law_891.2.2.2.2.1
theorem dL_law_897 : decode cL_law 897 = .ok (.iload 4, 2) := DL_law_891.2.2.2.2.2.1
theorem dL_law_899 : decode cL_law 899 = .ok (.iconst 3, 1) := DL_law_891.2.2.2.2.2.2.1
theorem dL_law_900 : decode cL_law 900 = .ok (.iadd, 1) := DL_law_891.2.2.2.2.2.2.2.1
theorem dL_law_901 : decode cL_law 901 = .ok (.iaload, 1) := DL_law_891.2.2.2.2.2.2.2.2.1
theorem dL_law_902 : decode cL_law 902 = .ok (.aload_n 0, 1) := DL_law_891.2.2.2.2.2.2.2.2.2.1
theorem dL_law_903 : decode cL_law 903 = .ok (.iload 4, 2) := DL_law_891.2.2.2.2.2.2.2.2.2.2.1
theorem dL_law_905 : decode cL_law 905 = .ok (.iconst 4, 1) := DL_law_891.2.2.2.2.2.2.2.2.2.2.2.1
theorem dL_law_906 : decode cL_law 906 = .ok (.iadd, 1) := DL_law_891.2.2.2.2.2.2.2.2.2.2.2.2.1
theorem dL_law_907 : decode cL_law 907 = .ok (.iaload, 1) := DL_law_891.2.2.2.2.2.2.2.2.2.2.2.2.2.1
theorem dL_law_908 : decode cL_law 908 = .ok (.invokevirtual 111, 3) := DL_law_891.2.2.2.2.2.2.2.2.2.2.2.2.2.2.1
theorem dL_law_911 : decode cL_law 911 = .ok (.pop, 1) := DL_law_891.2.2.2.2.2.2.2.2.2.2.2.2.2.2.2.1
theorem DL_law_912 : dAre cL_law [(912, .aload_n 2, 1), (913, .aload_n 0, 1), (914, .iload 4, 2), (916, .iconst 1, 1), (917, .iadd, 1), (918, .iaload, 1), (919, .aload_n 0, 1), (920, .iload 4, 2), (922, .iconst 2, 1), (923, .iadd, 1), (924, .iaload, 1), (925, .aload_n 0, 1), (926, .iload 4, 2), (928, .iconst 3, 1), (929, .iadd, 1), (930, .iaload, 1)] := dAre0 (by decide +kernel)
theorem dL_law_912 : decode cL_law 912 = .ok (.aload_n 2, 1) := DL_law_912.1
theorem dL_law_913 : decode cL_law 913 = .ok (.aload_n 0, 1) := DL_law_912.2.1
theorem dL_law_914 : decode cL_law 914 = .ok (.iload 4, 2) := DL_law_912.2.2.1
theorem dL_law_916 : decode cL_law 916 = .ok (.iconst 1, 1) := DL_law_912.2.2.2.1
theorem dL_law_917 : decode cL_law 917 = .ok (.iadd, 1) := DL_law_912.2.2.2.2.1
theorem dL_law_918 : decode cL_law 918 = .ok (.iaload, 1) := DL_law_912.2.2.2.2.2.1
theorem dL_law_919 : decode cL_law 919 = .ok (.aload_n 0, 1) := DL_law_912.2.2.2.2.2.2.1
theorem dL_law_920 : decode cL_law 920 = .ok (.iload 4, 2) := DL_law_912.2.2.2.2.2.2.2.1
theorem dL_law_922 : decode cL_law 922 = .ok (.iconst 2, 1) := DL_law_912.2.2.2.2.2.2.2.2.1
theorem dL_law_923 : decode cL_law 923 = .ok (.iadd, 1) := DL_law_912.2.2.2.2.2.2.2.2.2.1
theorem dL_law_924 : decode cL_law 924 = .ok (.iaload, 1) := DL_law_912.2.2.2.2.2.2.2.2.2.2.1
theorem dL_law_925 : decode cL_law 925 = .ok (.aload_n 0, 1) := DL_law_912.2.2.2.2.2.2.2.2.2.2.2.1
theorem dL_law_926 : decode cL_law 926 = .ok (.iload 4, 2) := DL_law_912.2.2.2.2.2.2.2.2.2.2.2.2.1
theorem dL_law_928 : decode cL_law 928 = .ok (.iconst 3, 1) := DL_law_912.2.2.2.2.2.2.2.2.2.2.2.2.2.1
theorem dL_law_929 : decode cL_law 929 = .ok (.iadd, 1) := DL_law_912.2.2.2.2.2.2.2.2.2.2.2.2.2.2.1
theorem dL_law_930 : decode cL_law 930 = .ok (.iaload, 1) := DL_law_912.2.2.2.2.2.2.2.2.2.2.2.2.2.2.2.1
theorem DL_law_931 : dAre cL_law [(931, .aload_n 0, 1), (932, .iload 4, 2), (934, .iconst 4, 1), (935, .iadd, 1), (936, .iaload, 1), (937, .invokevirtual 115, 3), (940, .pop, 1), (941, .goto 691, 3), (944, .aload_n 1, 1), (945, .aload_n 0, 1), (946, .iload 4, 2), (948, .iconst 1, 1), (949, .iadd, 1), (950, .iaload, 1), (951, .invokevirtual 116, 3), (954, .pop2, 1)] := dAre0 (by decide +kernel)
theorem dL_law_931 : decode cL_law 931 = .ok (.aload_n 0, 1) := DL_law_931.1
theorem dL_law_932 : decode cL_law 932 = .ok (.iload 4, 2) := DL_law_931.2.1
theorem dL_law_934 : decode cL_law 934 = .ok (.iconst 4, 1) := DL_law_931.2.2.1
theorem dL_law_935 : decode cL_law 935 = .ok (.iadd, 1) := DL_law_931.2.2.2.1
theorem dL_law_936 : decode cL_law 936 = .ok (.iaload, 1) := DL_law_931.2.2.2.2.1
theorem dL_law_937 : decode cL_law 937 = .ok (.invokevirtual 115, 3) := DL_law_931.2.2.2.2.2.1
theorem dL_law_940 : decode cL_law 940 = .ok (.pop, 1) := DL_law_931.2.2.2.2.2.2.1
theorem dL_law_941 : decode cL_law 941 = .ok (.goto 691, 3) := DL_law_931.2.2.2.2.2.2.2.1
theorem dL_law_944 : decode cL_law 944 = .ok (.aload_n 1, 1) := DL_law_931.2.2.2.2.2.2.2.2.1
theorem dL_law_945 : decode cL_law 945 = .ok (.aload_n 0, 1) := DL_law_931.2.2.2.2.2.2.2.2.2.1
theorem dL_law_946 : decode cL_law 946 = .ok (.iload 4, 2) := DL_law_931.2.2.2.2.2.2.2.2.2.2.1
theorem dL_law_948 : decode cL_law 948 = .ok (.iconst 1, 1) := DL_law_931.2.2.2.2.2.2.2.2.2.2.2.1
theorem dL_law_949 : decode cL_law 949 = .ok (.iadd, 1) := DL_law_931.2.2.2.2.2.2.2.2.2.2.2.2.1
theorem dL_law_950 : decode cL_law 950 = .ok (.iaload, 1) := DL_law_931.2.2.2.2.2.2.2.2.2.2.2.2.2.1
theorem dL_law_951 : decode cL_law 951 = .ok (.invokevirtual 116, 3) := DL_law_931.2.2.2.2.2.2.2.2.2.2.2.2.2.2.1
theorem dL_law_954 : decode cL_law 954 = .ok (.pop2, 1) := DL_law_931.2.2.2.2.2.2.2.2.2.2.2.2.2.2.2.1
theorem DL_law_955 : dAre cL_law [(955, .aload_n 2, 1), (956, .aload_n 0, 1), (957, .iload 4, 2), (959, .iconst 1, 1), (960, .iadd, 1), (961, .iaload, 1), (962, .invokevirtual 120, 3), (965, .pop2, 1), (966, .goto 666, 3), (969, .aload_n 1, 1), (970, .aload_n 0, 1), (971, .iload 4, 2), (973, .iconst 1, 1), (974, .iadd, 1), (975, .iaload, 1), (976, .aload_n 0, 1)] := dAre0 (by decide +kernel)
theorem dL_law_955 : decode cL_law 955 = .ok (.aload_n 2, 1) := DL_law_955.1
theorem dL_law_956 : decode cL_law 956 = .ok (.aload_n 0, 1) := DL_law_955.2.1
theorem dL_law_957 : decode cL_law 957 = .ok (.iload 4, 2) := DL_law_955.2.2.1
theorem dL_law_959 : decode cL_law 959 = .ok (.iconst 1, 1) := DL_law_955.2.2.2.1
theorem dL_law_960 : decode cL_law 960 = .ok (.iadd, 1) := DL_law_955.2.2.2.2.1
theorem dL_law_961 : decode cL_law 961 = .ok (.iaload, 1) := DL_law_955.2.2.2.2.2.1
theorem dL_law_962 : decode cL_law 962 = .ok (.invokevirtual 120, 3) := DL_law_955.2.2.2.2.2.2.1
theorem dL_law_965 : decode cL_law 965 = .ok (.pop2, 1) := DL_law_955.2.2.2.2.2.2.2.1
theorem dL_law_966 : decode cL_law 966 = .ok (.goto 666, 3) := DL_law_955.2.2.2.2.2.2.2.2.1
theorem dL_law_969 : decode cL_law 969 = .ok (.aload_n 1, 1) := DL_law_955.2.2.2.2.2.2.2.2.2.1
theorem dL_law_970 : decode cL_law 970 = .ok (.aload_n 0, 1) := DL_law_955.2.2.2.2.2.2.2.2.2.2.1
theorem dL_law_971 : decode cL_law 971 = .ok (.iload 4, 2) := DL_law_955.2.2.2.2.2.2.2.2.2.2.2.1
theorem dL_law_973 : decode cL_law 973 = .ok (.iconst 1, 1) := DL_law_955.2.2.2.2.2.2.2.2.2.2.2.2.1
theorem dL_law_974 : decode cL_law 974 = .ok (.iadd, 1) := DL_law_955.2.2.2.2.2.2.2.2.2.2.2.2.2.1
theorem dL_law_975 : decode cL_law 975 = .ok (.iaload, 1) := DL_law_955.2.2.2.2.2.2.2.2.2.2.2.2.2.2.1
theorem dL_law_976 : decode cL_law 976 = .ok (.aload_n 0, 1) := DL_law_955.2.2.2.2.2.2.2.2.2.2.2.2.2.2.2.1
theorem DL_law_977 : dAre cL_law [(977, .iload 4, 2), (979, .iconst 2, 1), (980, .iadd, 1), (981, .iaload, 1), (982, .invokevirtual 121, 3), (985, .pop, 1), (986, .aload_n 2, 1), (987, .aload_n 0, 1), (988, .iload 4, 2), (990, .iconst 1, 1), (991, .iadd, 1), (992, .iaload, 1), (993, .aload_n 0, 1), (994, .iload 4, 2), (996, .iconst 2, 1), (997, .iadd, 1)] := dAre0 (by decide +kernel)
theorem dL_law_977 : decode cL_law 977 = .ok (.iload 4, 2) := DL_law_977.1
theorem dL_law_979 : decode cL_law 979 = .ok (.iconst 2, 1) := DL_law_977.2.1
theorem dL_law_980 : decode cL_law 980 = .ok (.iadd, 1) := DL_law_977.2.2.1
theorem dL_law_981 : decode cL_law 981 = .ok (.iaload, 1) := DL_law_977.2.2.2.1
theorem dL_law_982 : decode cL_law 982 = .ok (.invokevirtual 121, 3) := DL_law_977.2.2.2.2.1
theorem dL_law_985 : decode cL_law 985 = .ok (.pop, 1) := DL_law_977.2.2.2.2.2.1
theorem dL_law_986 : decode cL_law 986 = .ok (.aload_n 2, 1) := DL_law_977.2.2.2.2.2.2.1
theorem dL_law_987 : decode cL_law 987 = .ok (.aload_n 0, 1) := DL_law_977.2.2.2.2.2.2.2.1
theorem dL_law_988 : decode cL_law 988 = .ok (.iload 4, 2) := DL_law_977.2.2.2.2.2.2.2.2.1
theorem dL_law_990 : decode cL_law 990 = .ok (.iconst 1, 1) := DL_law_977.2.2.2.2.2.2.2.2.2.1
theorem dL_law_991 : decode cL_law 991 = .ok (.iadd, 1) := DL_law_977.2.2.2.2.2.2.2.2.2.2.1
theorem dL_law_992 : decode cL_law 992 = .ok (.iaload, 1) := DL_law_977.2.2.2.2.2.2.2.2.2.2.2.1
theorem dL_law_993 : decode cL_law 993 = .ok (.aload_n 0, 1) := DL_law_977.2.2.2.2.2.2.2.2.2.2.2.2.1
theorem dL_law_994 : decode cL_law 994 = .ok (.iload 4, 2) := DL_law_977.2.2.2.2.2.2.2.2.2.2.2.2.2.1
theorem dL_law_996 : decode cL_law 996 = .ok (.iconst 2, 1) := DL_law_977.2.2.2.2.2.2.2.2.2.2.2.2.2.2.1
theorem dL_law_997 : decode cL_law 997 = .ok (.iadd, 1) := DL_law_977.2.2.2.2.2.2.2.2.2.2.2.2.2.2.2.1
theorem DL_law_998 : dAre cL_law [(998, .iaload, 1), (999, .invokevirtual 124, 3), (1002, .pop, 1), (1003, .goto 629, 3), (1006, .aload_n 1, 1), (1007, .aload_n 0, 1), (1008, .iload 4, 2), (1010, .iconst 1, 1), (1011, .iadd, 1), (1012, .iaload, 1), (1013, .invokevirtual 125, 3), (1016, .pop2, 1), (1017, .aload_n 2, 1), (1018, .aload_n 0, 1), (1019, .iload 4, 2), (1021, .iconst 1, 1)] := dAre0 (by decide +kernel)
theorem dL_law_998 : decode cL_law 998 = .ok (.iaload, 1) := DL_law_998.1
theorem dL_law_999 : decode cL_law 999 = .ok (.invokevirtual 124, 3) := DL_law_998.2.1
theorem dL_law_1002 : decode cL_law 1002 = .ok (.pop, 1) := DL_law_998.2.2.1
theorem dL_law_1003 : decode cL_law 1003 = .ok (.goto 629, 3) := DL_law_998.2.2.2.1
theorem dL_law_1006 : decode cL_law 1006 = .ok (.aload_n 1, 1) := DL_law_998.2.2.2.2.1
theorem dL_law_1007 : decode cL_law 1007 = .ok (.aload_n 0, 1) := DL_law_998.2.2.2.2.2.1
theorem dL_law_1008 : decode cL_law 1008 = .ok (.iload 4, 2) := DL_law_998.2.2.2.2.2.2.1
theorem dL_law_1010 : decode cL_law 1010 = .ok (.iconst 1, 1) := DL_law_998.2.2.2.2.2.2.2.1
theorem dL_law_1011 : decode cL_law 1011 = .ok (.iadd, 1) := DL_law_998.2.2.2.2.2.2.2.2.1
theorem dL_law_1012 : decode cL_law 1012 = .ok (.iaload, 1) := DL_law_998.2.2.2.2.2.2.2.2.2.1
theorem dL_law_1013 : decode cL_law 1013 = .ok (.invokevirtual 125, 3) := DL_law_998.2.2.2.2.2.2.2.2.2.2.1
theorem dL_law_1016 : decode cL_law 1016 = .ok (.pop2, 1) := DL_law_998.2.2.2.2.2.2.2.2.2.2.2.1
theorem dL_law_1017 : decode cL_law 1017 = .ok (.aload_n 2, 1) := DL_law_998.2.2.2.2.2.2.2.2.2.2.2.2.1
theorem dL_law_1018 : decode cL_law 1018 = .ok (.aload_n 0, 1) := DL_law_998.2.2.2.2.2.2.2.2.2.2.2.2.2.1
theorem dL_law_1019 : decode cL_law 1019 = .ok (.iload 4, 2) := DL_law_998.2.2.2.2.2.2.2.2.2.2.2.2.2.2.1
theorem dL_law_1021 : decode cL_law 1021 = .ok (.iconst 1, 1) := DL_law_998.2.2.2.2.2.2.2.2.2.2.2.2.2.2.2.1
theorem DL_law_1022 : dAre cL_law [(1022, .iadd, 1), (1023, .iaload, 1), (1024, .invokevirtual 128, 3), (1027, .pop2, 1), (1028, .goto 604, 3), (1031, .aload_n 1, 1), (1032, .aload_n 0, 1), (1033, .iload 4, 2), (1035, .iconst 1, 1), (1036, .iadd, 1), (1037, .iaload, 1), (1038, .invokevirtual 129, 3), (1041, .pop, 1), (1042, .aload_n 2, 1), (1043, .aload_n 0, 1), (1044, .iload 4, 2)] := dAre0 (by decide +kernel)
theorem dL_law_1022 : decode cL_law 1022 = .ok (.iadd, 1) := DL_law_1022.1
theorem dL_law_1023 : decode cL_law 1023 = .ok (.iaload, 1) := DL_law_1022.2.1
theorem dL_law_1024 : decode cL_law 1024 = .ok (.invokevirtual 128, 3) := DL_law_1022.2.2.1
theorem dL_law_1027 : decode cL_law 1027 = .ok (.pop2, 1) := DL_law_1022.2.2.2.1
theorem dL_law_1028 : decode cL_law 1028 = .ok (.goto 604, 3) := DL_law_1022.2.2.2.2.1
theorem dL_law_1031 : decode cL_law 1031 = .ok (.aload_n 1, 1) := DL_law_1022.2.2.2.2.2.1
theorem dL_law_1032 : decode cL_law 1032 = .ok (.aload_n 0, 1) := DL_law_1022.2.2.2.2.2.2.1
theorem dL_law_1033 : decode cL_law 1033 = .ok (.iload 4, 2) := DL_law_1022.2.2.2.2.2.2.2.1
theorem dL_law_1035 : decode cL_law 1035 = .ok (.iconst 1, 1) := DL_law_1022.2.2.2.2.2.2.2.2.1
theorem dL_law_1036 : decode cL_law 1036 = .ok (.iadd, 1) := DL_law_1022.2.2.2.2.2.2.2.2.2.1
theorem dL_law_1037 : decode cL_law 1037 = .ok (.iaload, 1) := DL_law_1022.2.2.2.2.2.2.2.2.2.2.1
theorem dL_law_1038 : decode cL_law 1038 = .ok (.invokevirtual 129, 3) := DL_law_1022.2.2.2.2.2.2.2.2.2.2.2.1
theorem dL_law_1041 : decode cL_law 1041 = .ok (.pop, 1) := DL_law_1022.2.2.2.2.2.2.2.2.2.2.2.2.1
theorem dL_law_1042 : decode cL_law 1042 = .ok (.aload_n 2, 1) := DL_law_1022.2.2.2.2.2.2.2.2.2.2.2.2.2.1
theorem dL_law_1043 : decode cL_law 1043 = .ok (.aload_n 0, 1) := DL_law_1022.2.2.2.2.2.2.2.2.2.2.2.2.2.2.1
theorem dL_law_1044 : decode cL_law 1044 = .ok (.iload 4, 2) := DL_law_1022.2.2.2.2.2.2.2.2.2.2.2.2.2.2.2.1
theorem DL_law_1046 : dAre cL_law [(1046, .iconst 1, 1), (1047, .iadd, 1), (1048, .iaload, 1), (1049, .invokevirtual 132, 3), (1052, .pop, 1), (1053, .goto 579, 3), (1056, .aload_n 1, 1), (1057, .aload_n 0, 1), (1058, .iload 4, 2), (1060, .iconst 1, 1), (1061, .iadd, 1), (1062, .iaload, 1), (1063, .aload_n 0, 1), (1064, .iload 4, 2), (1066, .iconst 2, 1), (1067, .iadd, 1)] := dAre0 (by decide +kernel)
theorem dL_law_1046 : decode cL_law 1046 = .ok (.iconst 1, 1) := DL_law_1046.1
theorem dL_law_1047 : decode cL_law 1047 = .ok (.iadd, 1) := DL_law_1046.2.1
theorem dL_law_1048 : decode cL_law 1048 = .ok (.iaload, 1) := DL_law_1046.2.2.1
theorem dL_law_1049 : decode cL_law 1049 = .ok (.invokevirtual 132, 3) := DL_law_1046.2.2.2.1
theorem dL_law_1052 : decode cL_law 1052 = .ok (.pop, 1) := DL_law_1046.2.2.2.2.1
theorem dL_law_1053 : decode cL_law 1053 = .ok (.goto 579, 3) := DL_law_1046.2.2.2.2.2.1
theorem dL_law_1056 : decode cL_law 1056 = .ok (.aload_n 1, 1) := DL_law_1046.2.2.2.2.2.2.1
theorem dL_law_1057 : decode cL_law 1057 = .ok (.aload_n 0, 1) := DL_law_1046.2.2.2.2.2.2.2.1
theorem dL_law_1058 : decode cL_law 1058 = .ok (.iload 4, 2) := DL_law_1046.2.2.2.2.2.2.2.2.1
theorem dL_law_1060 : decode cL_law 1060 = .ok (.iconst 1, 1) := DL_law_1046.2.2.2.2.2.2.2.2.2.1
theorem dL_law_1061 : decode cL_law 1061 = .ok (.iadd, 1) := DL_law_1046.2.2.2.2.2.2.2.2.2.2.1
theorem dL_law_1062 : decode cL_law 1062 = .ok (.iaload, 1) := DL_law_1046.2.2.2.2.2.2.2.2.2.2.2.1
theorem dL_law_1063 : decode cL_law 1063 = .ok (.aload_n 0, 1) := DL_law_1046.2.2.2.2.2.2.2.2.2.2.2.2.1
theorem dL_law_1064 : decode cL_law 1064 = .ok (.iload 4, 2) := DL_law_1046.2.2.2.2.2.2.2.2.2.2.2.2.2.1
theorem dL_law_1066 : decode cL_law 1066 = .ok (.iconst 2, 1) := DL_law_1046.2.2.2.2.2.2.2.2.2.2.2.2.2.2.1
theorem dL_law_1067 : decode cL_law 1067 = .ok (.iadd, 1) := DL_law_1046.2.2.2.2.2.2.2.2.2.2.2.2.2.2.2.1
theorem DL_law_1068 : dAre cL_law [(1068, .iaload, 1), (1069, .aload_n 0, 1), (1070, .iload 4, 2), (1072, .iconst 3, 1), (1073, .iadd, 1), (1074, .iaload, 1), (1075, .aload_n 0, 1), (1076, .iload 4, 2), (1078, .iconst 4, 1), (1079, .iadd, 1), (1080, .iaload, 1), (1081, .invokevirtual 133, 3), (1084, .pop, 1), (1085, .aload_n 2, 1), (1086, .aload_n 0, 1), (1087, .iload 4, 2)] := dAre0 (by decide +kernel)
theorem dL_law_1068 : decode cL_law 1068 = .ok (.iaload, 1) := DL_law_1068.1
theorem dL_law_1069 : decode cL_law 1069 = .ok (.aload_n 0, 1) := DL_law_1068.2.1
theorem dL_law_1070 : decode cL_law 1070 = .ok (.iload 4, 2) := DL_law_1068.2.2.1
theorem dL_law_1072 : decode cL_law 1072 = .ok (.iconst 3, 1) := DL_law_1068.2.2.2.1
theorem dL_law_1073 : decode cL_law 1073 = .ok (.iadd, 1) := DL_law_1068.2.2.2.2.1
theorem dL_law_1074 : decode cL_law 1074 = .ok (.iaload, 1) := DL_law_1068.2.2.2.2.2.1
theorem dL_law_1075 : decode cL_law 1075 = .ok (.aload_n 0, 1) := DL_law_1068.2.2.2.2.2.2.1
theorem dL_law_1076 : decode cL_law 1076 = .ok (.iload 4, 2) := DL_law_1068.2.2.2.2.2.2.2.1
theorem dL_law_1078 : decode cL_law 1078 = .ok (.iconst 4, 1) := DL_law_1068.2.2.2.2.2.2.2.2.1
theorem dL_law_1079 : decode cL_law 1079 = .ok (.iadd, 1) := DL_law_1068.2.2.2.2.2.2.2.2.2.1
theorem dL_law_1080 : decode cL_law 1080 = .ok (.iaload, 1) := DL_law_1068.2.2.2.2.2.2.2.2.2.2.1
theorem dL_law_1081 : decode cL_law 1081 = .ok (.invokevirtual 133, 3) := DL_law_1068.2.2.2.2.2.2.2.2.2.2.2.1
theorem dL_law_1084 : decode cL_law 1084 = .ok (.pop, 1) := DL_law_1068.2.2.2.2.2.2.2.2.2.2.2.2.1
theorem dL_law_1085 : decode cL_law 1085 = .ok (.aload_n 2, 1) := DL_law_1068.2.2.2.2.2.2.2.2.2.2.2.2.2.1
theorem dL_law_1086 : decode cL_law 1086 = .ok (.aload_n 0, 1) := DL_law_1068.2.2.2.2.2.2.2.2.2.2.2.2.2.2.1
theorem dL_law_1087 : decode cL_law 1087 = .ok (.iload 4, 2) := DL_law_1068.2.2.2.2.2.2.2.2.2.2.2.2.2.2.2.1
theorem DL_law_1089 : dAre cL_law [(1089, .iconst 1, 1), (1090, .iadd, 1), (1091, .iaload, 1), (1092, .aload_n 0, 1), (1093, .iload 4, 2), (1095, .iconst 2, 1), (1096, .iadd, 1), (1097, .iaload, 1), (1098, .aload_n 0, 1), (1099, .iload 4, 2), (1101, .iconst 3, 1), (1102, .iadd, 1), (1103, .iaload, 1), (1104, .aload_n 0, 1), (1105, .iload 4, 2), (1107, .iconst 4, 1)] := dAre0 (by decide +kernel)
theorem dL_law_1089 : decode cL_law 1089 = .ok (.iconst 1, 1) := DL_law_1089.1
theorem dL_law_1090 : decode cL_law 1090 = .ok (.iadd, 1) := DL_law_1089.2.1
theorem dL_law_1091 : decode cL_law 1091 = .ok (.iaload, 1) := DL_law_1089.2.2.1
theorem dL_law_1092 : decode cL_law 1092 = .ok (.aload_n 0, 1) := DL_law_1089.2.2.2.1
theorem dL_law_1093 : decode cL_law 1093 = .ok (.iload 4, 2) := DL_law_1089.2.2.2.2.1
theorem dL_law_1095 : decode cL_law 1095 = .ok (.iconst 2, 1) := DL_law_1089.2.2.2.2.2.1
theorem dL_law_1096 : decode cL_law 1096 = .ok (.iadd, 1) := DL_law_1089.2.2.2.2.2.2.1
theorem dL_law_1097 : decode cL_law 1097 = .ok (.iaload, 1) := DL_law_1089.2.2.2.2.2.2.2.1
theorem dL_law_1098 : decode cL_law 1098 = .ok (.aload_n 0, 1) := DL_law_1089.2.2.2.2.2.2.2.2.1
theorem dL_law_1099 : decode cL_law 1099 = .ok (.iload 4, 2) := DL_law_1089.2.2.2.2.2.2.2.2.2.1
theorem dL_law_1101 : decode cL_law 1101 = .ok (.iconst 3, 1) := DL_law_1089.2.2.2.2.2.2.2.2.2.2.1
theorem dL_law_1102 : decode cL_law 1102 = .ok (.iadd, 1) := DL_law_1089.2.2.2.2.2.2.2.2.2.2.2.1
theorem dL_law_1103 : decode cL_law 1103 = .ok (.iaload, 1) := DL_law_1089.2.2.2.2.2.2.2.2.2.2.2.2.1
theorem dL_law_1104 : decode cL_law 1104 = .ok (.aload_n 0, 1) := DL_law_1089.2.2.2.2.2.2.2.2.2.2.2.2.2.1
theorem dL_law_1105 : decode cL_law 1105 = .ok (.iload 4, 2) := DL_law_1089.2.2.2.2.2.2.2.2.2.2.2.2.2.2.1
theorem dL_law_1107 : decode cL_law 1107 = .ok (.iconst 4, 1) := DL_law_1089.2.2.2.2.2.2.2.2.2.2.2.2.2.2.2.1
theorem DL_law_1108 : dAre cL_law [(1108, .iadd, 1), (1109, .iaload, 1), (1110, .invokevirtual 136, 3), (1113, .pop, 1), (1114, .goto 518, 3), (1117, .aload_n 1, 1), (1118, .aload_n 0, 1), (1119, .iload 4, 2), (1121, .iconst 1, 1), (1122, .iadd, 1), (1123, .iaload, 1), (1124, .aload_n 0, 1), (1125, .iload 4, 2), (1127, .iconst 2, 1), (1128, .iadd, 1), (1129, .iaload, 1)] := dAre0 (by decide +kernel)
theorem dL_law_1108 : decode cL_law 1108 = .ok (.iadd, 1) := DL_law_1108.1
theorem dL_law_1109 : decode cL_law 1109 = .ok (.iaload, 1) := DL_law_1108.2.1
theorem dL_law_1110 : decode cL_law 1110 = .ok (.invokevirtual 136, 3) := DL_law_1108.2.2.1
theorem dL_law_1113 : decode cL_law 1113 = .ok (.pop, 1) := DL_law_1108.2.2.2.1
theorem dL_law_1114 : decode cL_law 1114 = .ok (.goto 518, 3) := DL_law_1108.2.2.2.2.1
theorem dL_law_1117 : decode cL_law 1117 = .ok (.aload_n 1, 1) := DL_law_1108.2.2.2.2.2.1
theorem dL_law_1118 : decode cL_law 1118 = .ok (.aload_n 0, 1) := DL_law_1108.2.2.2.2.2.2.1
theorem dL_law_1119 : decode cL_law 1119 = .ok (.iload 4, 2) := DL_law_1108.2.2.2.2.2.2.2.1
theorem dL_law_1121 : decode cL_law 1121 = .ok (.iconst 1, 1) := DL_law_1108.2.2.2.2.2.2.2.2.1
theorem dL_law_1122 : decode cL_law 1122 = .ok (.iadd, 1) := DL_law_1108.2.2.2.2.2.2.2.2.2.1
theorem dL_law_1123 : decode cL_law 1123 = .ok (.iaload, 1) := DL_law_1108.2.2.2.2.2.2.2.2.2.2.1
theorem dL_law_1124 : decode cL_law 1124 = .ok (.aload_n 0, 1) := DL_law_1108.2.2.2.2.2.2.2.2.2.2.2.1
theorem dL_law_1125 : decode cL_law 1125 = .ok (.iload 4, 2) := DL_law_1108.2.2.2.2.2.2.2.2.2.2.2.2.1
theorem dL_law_1127 : decode cL_law 1127 = .ok (.iconst 2, 1) := DL_law_1108.2.2.2.2.2.2.2.2.2.2.2.2.2.1
theorem dL_law_1128 : decode cL_law 1128 = .ok (.iadd, 1) := DL_law_1108.2.2.2.2.2.2.2.2.2.2.2.2.2.2.1
theorem dL_law_1129 : decode cL_law 1129 = .ok (.iaload, 1) := DL_law_1108.2.2.2.2.2.2.2.2.2.2.2.2.2.2.2.1
theorem DL_law_1130 : dAre cL_law [(1130, .aload_n 0, 1), (1131, .iload 4, 2), (1133, .iconst 3, 1), (1134, .iadd, 1), (1135, .iaload, 1), (1136, .aload_n 0, 1), (1137, .iload 4, 2), (1139, .iconst 4, 1), (1140, .iadd, 1), (1141, .iaload, 1), (1142, .invokevirtual 137, 3), (1145, .pop, 1), (1146, .aload_n 2, 1), (1147, .aload_n 0, 1), (1148, .iload 4, 2), (1150, .iconst 1, 1)] := dAre0 (by decide +kernel)
theorem dL_law_1130 : decode cL_law 1130 = .ok (.aload_n 0, 1) := DL_law_1130.1
theorem dL_law_1131 : decode cL_law 1131 = .ok (.iload 4, 2) := DL_law_1130.2.1
theorem dL_law_1133 : decode cL_law 1133 = .ok (.iconst 3, 1) := DL_law_1130.2.2.1
theorem dL_law_1134 : decode cL_law 1134 = .ok (.iadd, 1) := DL_law_1130.2.2.2.1
theorem dL_law_1135 : decode cL_law 1135 = .ok (.iaload, 1) := DL_law_1130.2.2.2.2.1
theorem dL_law_1136 : decode cL_law 1136 = .ok (.aload_n 0, 1) := DL_law_1130.2.2.2.2.2.1
theorem dL_law_1137 : decode cL_law 1137 = .ok (.iload 4, 2) := DL_law_1130.2.2.2.2.2.2.1
theorem dL_law_1139 : decode cL_law 1139 = .ok (.iconst 4, 1) := DL_law_1130.2.2.2.2.2.2.2.1
theorem dL_law_1140 : decode cL_law 1140 = .ok (.iadd, 1) := DL_law_1130.2.2.2.2.2.2.2.2.1
theorem dL_law_1141 : decode cL_law 1141 = .ok (.iaload, 1) := DL_law_1130.2.2.2.2.2.2.2.2.2.1
theorem dL_law_1142 : decode cL_law 1142 = .ok (.invokevirtual 137, 3) := DL_law_1130.2.2.2.2.2.2.2.2.2.2.1
theorem dL_law_1145 : decode cL_law 1145 = .ok (.pop, 1) := DL_law_1130.2.2.2.2.2.2.2.2.2.2.2.1
theorem dL_law_1146 : decode cL_law 1146 = .ok (.aload_n 2, 1) := DL_law_1130.2.2.2.2.2.2.2.2.2.2.2.2.1
theorem dL_law_1147 : decode cL_law 1147 = .ok (.aload_n 0, 1) := DL_law_1130.2.2.2.2.2.2.2.2.2.2.2.2.2.1
theorem dL_law_1148 : decode cL_law 1148 = .ok (.iload 4, 2) := DL_law_1130.2.2.2.2.2.2.2.2.2.2.2.2.2.2.1
theorem dL_law_1150 : decode cL_law 1150 = .ok (.iconst 1, 1) := DL_law_1130.2.2.2.2.2.2.2.2.2.2.2.2.2.2.2.1
theorem DL_law_1151 : dAre cL_law [(1151, .iadd, 1), (1152, .iaload, 1), (1153, .aload_n 0, 1), (1154, .iload 4, 2), (1156, .iconst 2, 1), (1157, .iadd, 1), (1158, .iaload, 1), (1159, .aload_n 0, 1), (1160, .iload 4, 2), (1162, .iconst 3, 1), (1163, .iadd, 1), (1164, .iaload, 1), (1165, .aload_n 0, 1), (1166, .iload 4, 2), (1168, .iconst 4, 1), (1169, .iadd, 1)] := dAre0 (by decide +kernel)
theorem dL_law_1151 : decode cL_law 1151 = .ok (.iadd, 1) := DL_law_1151.1
theorem dL_law_1152 : decode cL_law 1152 = .ok (.iaload, 1) := DL_law_1151.2.1
theorem dL_law_1153 : decode cL_law 1153 = .ok (.aload_n 0, 1) := DL_law_1151.2.2.1
theorem dL_law_1154 : decode cL_law 1154 = .ok (.iload 4, 2) := DL_law_1151.2.2.2.1
theorem dL_law_1156 : decode cL_law 1156 = .ok (.iconst 2, 1) := DL_law_1151.2.2.2.2.1
theorem dL_law_1157 : decode cL_law 1157 = .ok (.iadd, 1) := DL_law_1151.2.2.2.2.2.1
theorem dL_law_1158 : decode cL_law 1158 = .ok (.iaload, 1) := DL_law_1151.2.2.2.2.2.2.1
theorem dL_law_1159 : decode cL_law 1159 = .ok (.aload_n 0, 1) := DL_law_1151.2.2.2.2.2.2.2.1
theorem dL_law_1160 : decode cL_law 1160 = .ok (.iload 4, 2) := DL_law_1151.2.2.2.2.2.2.2.2.1
theorem dL_law_1162 : decode cL_law 1162 = .ok (.iconst 3, 1) := DL_law_1151.2.2.2.2.2.2.2.2.2.1
theorem dL_law_1163 : decode cL_law 1163 = .ok (.iadd, 1) := DL_law_1151.2.2.2.2.2.2.2.2.2.2.1
theorem dL_law_1164 : decode cL_law 1164 = .ok (.iaload, 1) := DL_law_1151.2.2.2.2.2.2.2.2.2.2.2.1
theorem dL_law_1165 : decode cL_law 1165 = .ok (.aload_n 0, 1) := DL_law_1151.2.2.2.2.2.2.2.2.2.2.2.2.1
theorem dL_law_1166 : decode cL_law 1166 = .ok (.iload 4, 2) := DL_law_1151.2.2.2.2.2.2.2.2.2.2.2.2.2.1
theorem dL_law_1168 : decode cL_law 1168 = .ok (.iconst 4, 1) := DL_law_1151.2.2.2.2.2.2.2.2.2.2.2.2.2.2.1
theorem dL_law_1169 : decode cL_law 1169 = .ok (.iadd, 1) := DL_law_1151.2.2.2.2.2.2.2.2.2.2.2.2.2.2.2.1
theorem DL_law_1170 : dAre cL_law [(1170, .iaload, 1), (1171, .invokevirtual 140, 3), (1174, .pop, 1), (1175, .goto 457, 3), (1178, .aload_n 1, 1), (1179, .aload_n 0, 1), (1180, .iload 4, 2), (1182, .iconst 1, 1), (1183, .iadd, 1), (1184, .iaload, 1), (1185, .invokevirtual 141, 3), (1188, .pop, 1), (1189, .aload_n 2, 1), (1190, .aload_n 0, 1), (1191, .iload 4, 2), (1193, .iconst 1, 1)] := dAre0 (by decide +kernel)
theorem dL_law_1170 : decode cL_law 1170 = .ok (.iaload, 1) := DL_law_1170.1
theorem dL_law_1171 : decode cL_law 1171 = .ok (.invokevirtual 140, 3) := DL_law_1170.2.1
theorem dL_law_1174 : decode cL_law 1174 = .ok (.pop, 1) := DL_law_1170.2.2.1
theorem dL_law_1175 : decode cL_law 1175 = .ok (.goto 457, 3) := DL_law_1170.2.2.2.1
theorem dL_law_1178 : decode cL_law 1178 = .ok (.aload_n 1, 1) := DL_law_1170.2.2.2.2.1
theorem dL_law_1179 : decode cL_law 1179 = .ok (.aload_n 0, 1) := DL_law_1170.2.2.2.2.2.1
theorem dL_law_1180 : decode cL_law 1180 = .ok (.iload 4, 2) := DL_law_1170.2.2.2.2.2.2.1
theorem dL_law_1182 : decode cL_law 1182 = .ok (.iconst 1, 1) := DL_law_1170.2.2.2.2.2.2.2.1
theorem dL_law_1183 : decode cL_law 1183 = .ok (.iadd, 1) := DL_law_1170.2.2.2.2.2.2.2.2.1
theorem dL_law_1184 : decode cL_law 1184 = .ok (.iaload, 1) := DL_law_1170.2.2.2.2.2.2.2.2.2.1
theorem dL_law_1185 : decode cL_law 1185 = .ok (.invokevirtual 141, 3) := DL_law_1170.2.2.2.2.2.2.2.2.2.2.1
theorem dL_law_1188 : decode cL_law 1188 = .ok (.pop, 1) := DL_law_1170.2.2.2.2.2.2.2.2.2.2.2.1
theorem dL_law_1189 : decode cL_law 1189 = .ok (.aload_n 2, 1) := DL_law_1170.2.2.2.2.2.2.2.2.2.2.2.2.1
theorem dL_law_1190 : decode cL_law 1190 = .ok (.aload_n 0, 1) := DL_law_1170.2.2.2.2.2.2.2.2.2.2.2.2.2.1
theorem dL_law_1191 : decode cL_law 1191 = .ok (.iload 4, 2) := DL_law_1170.2.2.2.2.2.2.2.2.2.2.2.2.2.2.1
theorem dL_law_1193 : decode cL_law 1193 = .ok (.iconst 1, 1) := DL_law_1170.2.2.2.2.2.2.2.2.2.2.2.2.2.2.2.1
theorem DL_law_1194 : dAre cL_law [(1194, .iadd, 1), (1195, .iaload, 1), (1196, .invokevirtual 144, 3), (1199, .pop, 1), (1200, .goto 432, 3), (1203, .aload_n 1, 1), (1204, .aload_n 0, 1), (1205, .iload 4, 2), (1207, .iconst 1, 1), (1208, .iadd, 1), (1209, .iaload, 1), (1210, .invokevirtual 145, 3), (1213, .pop, 1), (1214, .aload_n 2, 1), (1215, .aload_n 0, 1), (1216, .iload 4, 2)] := dAre0 (by decide +kernel)
theorem dL_law_1194 : decode cL_law 1194 = .ok (.iadd, 1) := DL_law_1194.1
theorem dL_law_1195 : decode cL_law 1195 = .ok (.iaload, 1) := DL_law_1194.2.1
theorem dL_law_1196 : decode cL_law 1196 = .ok (.invokevirtual 144, 3) := DL_law_1194.2.2.1
theorem dL_law_1199 : decode cL_law 1199 = .ok (.pop, 1) := DL_law_1194.2.2.2.1
theorem dL_law_1200 : decode cL_law 1200 = .ok (.goto 432, 3) := DL_law_1194.2.2.2.2.1
theorem dL_law_1203 : decode cL_law 1203 = .ok (.aload_n 1, 1) := DL_law_1194.2.2.2.2.2.1
theorem dL_law_1204 : decode cL_law 1204 = .ok (.aload_n 0, 1) := DL_law_1194.2.2.2.2.2.2.1
theorem dL_law_1205 : decode cL_law 1205 = .ok (.iload 4, 2) := DL_law_1194.2.2.2.2.2.2.2.1
theorem dL_law_1207 : decode cL_law 1207 = .ok (.iconst 1, 1) := DL_law_1194.2.2.2.2.2.2.2.2.1
theorem dL_law_1208 : decode cL_law 1208 = .ok (.iadd, 1) := DL_law_1194.2.2.2.2.2.2.2.2.2.1
theorem dL_law_1209 : decode cL_law 1209 = .ok (.iaload, 1) := DL_law_1194.2.2.2.2.2.2.2.2.2.2.1
theorem dL_law_1210 : decode cL_law 1210 = .ok (.invokevirtual 145, 3) := DL_law_1194.2.2.2.2.2.2.2.2.2.2.2.1
theorem dL_law_1213 : decode cL_law 1213 = .ok (.pop, 1) := DL_law_1194.2.2.2.2.2.2.2.2.2.2.2.2.1
theorem dL_law_1214 : decode cL_law 1214 = .ok (.aload_n 2, 1) := DL_law_1194.2.2.2.2.2.2.2.2.2.2.2.2.2.1
theorem dL_law_1215 : decode cL_law 1215 = .ok (.aload_n 0, 1) := DL_law_1194.2.2.2.2.2.2.2.2.2.2.2.2.2.2.1
theorem dL_law_1216 : decode cL_law 1216 = .ok (.iload 4, 2) := DL_law_1194.2.2.2.2.2.2.2.2.2.2.2.2.2.2.2.1
theorem DL_law_1218 : dAre cL_law [(1218, .iconst 1, 1), (1219, .iadd, 1), (1220, .iaload, 1), (1221, .invokevirtual 148, 3), (1224, .pop, 1), (1225, .goto 407, 3), (1228, .aload_n 1, 1), (1229, .aload_n 0, 1), (1230, .iload 4, 2), (1232, .iconst 1, 1), (1233, .iadd, 1), (1234, .iaload, 1), (1235, .aload_n 0, 1), (1236, .iload 4, 2), (1238, .iconst 2, 1), (1239, .iadd, 1)] := dAre0 (by decide +kernel)
theorem dL_law_1218 : decode cL_law 1218 = .ok (.iconst 1, 1) := DL_law_1218.1
theorem dL_law_1219 : decode cL_law 1219 = .ok (.iadd, 1) := DL_law_1218.2.1
theorem dL_law_1220 : decode cL_law 1220 = .ok (.iaload, 1) := DL_law_1218.2.2.1
theorem dL_law_1221 : decode cL_law 1221 = .ok (.invokevirtual 148, 3) := DL_law_1218.2.2.2.1
theorem dL_law_1224 : decode cL_law 1224 = .ok (.pop, 1) := DL_law_1218.2.2.2.2.1
theorem dL_law_1225 : decode cL_law 1225 = .ok (.goto 407, 3) := DL_law_1218.2.2.2.2.2.1
theorem dL_law_1228 : decode cL_law 1228 = .ok (.aload_n 1, 1) := DL_law_1218.2.2.2.2.2.2.1
theorem dL_law_1229 : decode cL_law 1229 = .ok (.aload_n 0, 1) := DL_law_1218.2.2.2.2.2.2.2.1
theorem dL_law_1230 : decode cL_law 1230 = .ok (.iload 4, 2) := DL_law_1218.2.2.2.2.2.2.2.2.1
theorem dL_law_1232 : decode cL_law 1232 = .ok (.iconst 1, 1) := DL_law_1218.2.2.2.2.2.2.2.2.2.1
theorem dL_law_1233 : decode cL_law 1233 = .ok (.iadd, 1) := DL_law_1218.2.2.2.2.2.2.2.2.2.2.1
theorem dL_law_1234 : decode cL_law 1234 = .ok (.iaload, 1) := DL_law_1218.2.2.2.2.2.2.2.2.2.2.2.1
theorem dL_law_1235 : decode cL_law 1235 = .ok (.aload_n 0, 1) := DL_law_1218.2.2.2.2.2.2.2.2.2.2.2.2.1
theorem dL_law_1236 : decode cL_law 1236 = .ok (.iload 4, 2) := DL_law_1218.2.2.2.2.2.2.2.2.2.2.2.2.2.1
theorem dL_law_1238 : decode cL_law 1238 = .ok (.iconst 2, 1) := DL_law_1218.2.2.2.2.2.2.2.2.2.2.2.2.2.2.1
theorem dL_law_1239 : decode cL_law 1239 = .ok (.iadd, 1) := DL_law_1218.2.2.2.2.2.2.2.2.2.2.2.2.2.2.2.1
theorem DL_law_1240 : dAre cL_law [(1240, .iaload, 1), (1241, .i2l, 1), (1242, .bipush 32, 2), (1244, .lshl, 1), (1245, .aload_n 0, 1), (1246, .iload 4, 2), (1248, .iconst 3, 1), (1249, .iadd, 1), (1250, .iaload, 1), (1251, .i2l, 1), (1252, .ldc2_w 149, 3), (1255, .land, 1), (1256, .lor, 1), (1257, .invokevirtual 151, 3), (1260, .pop, 1), (1261, .aload_n 2, 1)] := dAre0 (by decide +kernel)
theorem dL_law_1240 : decode cL_law 1240 = .ok (.iaload, 1) := DL_law_1240.1
theorem dL_law_1241 : decode cL_law 1241 = .ok (.i2l, 1) := DL_law_1240.2.1
theorem dL_law_1242 : decode cL_law 1242 = .ok (.bipush 32, 2) := DL_law_1240.2.2.1
theorem dL_law_1244 : decode cL_law 1244 = .ok (.lshl, 1) := DL_law_1240.2.2.2.1
theorem dL_law_1245 : decode cL_law 1245 = .ok (.aload_n 0, 1) := DL_law_1240.2.2.2.2.1
theorem dL_law_1246 : decode cL_law 1246 = .ok (.iload 4, 2) := DL_law_1240.2.2.2.2.2.1
theorem dL_law_1248 : decode cL_law 1248 = .ok (.iconst 3, 1) := DL_law_1240.2.2.2.2.2.2.1
theorem dL_law_1249 : decode cL_law 1249 = .ok (.iadd, 1) := DL_law_1240.2.2.2.2.2.2.2.1
theorem dL_law_1250 : decode cL_law 1250 = .ok (.iaload, 1) := DL_law_1240.2.2.2.2.2.2.2.2.1
theorem dL_law_1251 : decode cL_law 1251 = .ok (.i2l, 1) := DL_law_1240.2.2.2.2.2.2.2.2.2.1
theorem dL_law_1252 : decode cL_law 1252 = .ok (.ldc2_w 149, 3) := DL_law_1240.2.2.2.2.2.2.2.2.2.2.1
theorem dL_law_1255 : decode cL_law 1255 = .ok (.land, 1) := DL_law_1240.2.2.2.2.2.2.2.2.2.2.2.1
theorem dL_law_1256 : decode cL_law 1256 = .ok (.lor, 1) := DL_law_1240.2.2.2.2.2.2.2.2.2.2.2.2.1
theorem dL_law_1257 : decode cL_law 1257 = .ok (.invokevirtual 151, 3) := DL_law_1240.2.2.2.2.2.2.2.2.2.2.2.2.2.1
theorem dL_law_1260 : decode cL_law 1260 = .ok (.pop, 1) := DL_law_1240.2.2.2.2.2.2.2.2.2.2.2.2.2.2.1
theorem dL_law_1261 : decode cL_law 1261 = .ok (.aload_n 2, 1) := DL_law_1240.2.2.2.2.2.2.2.2.2.2.2.2.2.2.2.1
theorem DL_law_1262 : dAre cL_law [(1262, .aload_n 0, 1), (1263, .iload 4, 2), (1265, .iconst 1, 1), (1266, .iadd, 1), (1267, .iaload, 1), (1268, .aload_n 0, 1), (1269, .iload 4, 2), (1271, .iconst 2, 1), (1272, .iadd, 1), (1273, .iaload, 1), (1274, .i2l, 1), (1275, .bipush 32, 2), (1277, .lshl, 1), (1278, .aload_n 0, 1), (1279, .iload 4, 2), (1281, .iconst 3, 1)] := dAre0 (by decide +kernel)
theorem dL_law_1262 : decode cL_law 1262 = .ok (.aload_n 0, 1) := DL_law_1262.1
theorem dL_law_1263 : decode cL_law 1263 = .ok (.iload 4, 2) := DL_law_1262.2.1
theorem dL_law_1265 : decode cL_law 1265 = .ok (.iconst 1, 1) := DL_law_1262.2.2.1
theorem dL_law_1266 : decode cL_law 1266 = .ok (.iadd, 1) := DL_law_1262.2.2.2.1
theorem dL_law_1267 : decode cL_law 1267 = .ok (.iaload, 1) := DL_law_1262.2.2.2.2.1
theorem dL_law_1268 : decode cL_law 1268 = .ok (.aload_n 0, 1) := DL_law_1262.2.2.2.2.2.1
theorem dL_law_1269 : decode cL_law 1269 = .ok (.iload 4, 2) := DL_law_1262.2.2.2.2.2.2.1
theorem dL_law_1271 : decode cL_law 1271 = .ok (.iconst 2, 1) := DL_law_1262.2.2.2.2.2.2.2.1
theorem dL_law_1272 : decode cL_law 1272 = .ok (.iadd, 1) := DL_law_1262.2.2.2.2.2.2.2.2.1
theorem dL_law_1273 : decode cL_law 1273 = .ok (.iaload, 1) := DL_law_1262.2.2.2.2.2.2.2.2.2.1
theorem dL_law_1274 : decode cL_law 1274 = .ok (.i2l, 1) := DL_law_1262.2.2.2.2.2.2.2.2.2.2.1
theorem dL_law_1275 : decode cL_law 1275 = .ok (.bipush 32, 2) := DL_law_1262.2.2.2.2.2.2.2.2.2.2.2.1
theorem dL_law_1277 : decode cL_law 1277 = .ok (.lshl, 1) := DL_law_1262.2.2.2.2.2.2.2.2.2.2.2.2.1
theorem dL_law_1278 : decode cL_law 1278 = .ok (.aload_n 0, 1) := DL_law_1262.2.2.2.2.2.2.2.2.2.2.2.2.2.1
theorem dL_law_1279 : decode cL_law 1279 = .ok (.iload 4, 2) := DL_law_1262.2.2.2.2.2.2.2.2.2.2.2.2.2.2.1
theorem dL_law_1281 : decode cL_law 1281 = .ok (.iconst 3, 1) := DL_law_1262.2.2.2.2.2.2.2.2.2.2.2.2.2.2.2.1
theorem DL_law_1282 : dAre cL_law [(1282, .iadd, 1), (1283, .iaload, 1), (1284, .i2l, 1), (1285, .ldc2_w 149, 3), (1288, .land, 1), (1289, .lor, 1), (1290, .invokevirtual 155, 3), (1293, .pop, 1), (1294, .goto 338, 3), (1297, .aload_n 1, 1), (1298, .aload_n 0, 1), (1299, .iload 4, 2), (1301, .iconst 1, 1), (1302, .iadd, 1), (1303, .iaload, 1), (1304, .invokevirtual 156, 3)] := dAre0 (by decide +kernel)
theorem dL_law_1282 : decode cL_law 1282 = .ok (.iadd, 1) := DL_law_1282.1
theorem dL_law_1283 : decode cL_law 1283 = .ok (.iaload, 1) := DL_law_1282.2.1
theorem dL_law_1284 : decode cL_law 1284 = .ok (.i2l, 1) := DL_law_1282.2.2.1
theorem dL_law_1285 : decode cL_law 1285 = .ok (.ldc2_w 149, 3) := DL_law_1282.2.2.2.1
theorem dL_law_1288 : decode cL_law 1288 = .ok (.land, 1) := DL_law_1282.2.2.2.2.1
theorem dL_law_1289 : decode cL_law 1289 = .ok (.lor, 1) := DL_law_1282.2.2.2.2.2.1
theorem dL_law_1290 : decode cL_law 1290 = .ok (.invokevirtual 155, 3) := DL_law_1282.2.2.2.2.2.2.1
theorem dL_law_1293 : decode cL_law 1293 = .ok (.pop, 1) := DL_law_1282.2.2.2.2.2.2.2.1
theorem dL_law_1294 : decode cL_law 1294 = .ok (.goto 338, 3) := DL_law_1282.2.2.2.2.2.2.2.2.1
theorem dL_law_1297 : decode cL_law 1297 = .ok (.aload_n 1, 1) := DL_law_1282.2.2.2.2.2.2.2.2.2.1
theorem dL_law_1298 : decode cL_law 1298 = .ok (.aload_n 0, 1) := DL_law_1282.2.2.2.2.2.2.2.2.2.2.1
theorem dL_law_1299 : decode cL_law 1299 = .ok (.iload 4, 2) := DL_law_1282.2.2.2.2.2.2.2.2.2.2.2.1
theorem dL_law_1301 : decode cL_law 1301 = .ok (.iconst 1, 1) := DL_law_1282.2.2.2.2.2.2.2.2.2.2.2.2.1
theorem dL_law_1302 : decode cL_law 1302 = .ok (.iadd, 1) := DL_law_1282.2.2.2.2.2.2.2.2.2.2.2.2.2.1
theorem dL_law_1303 : decode cL_law 1303 = .ok (.iaload, 1) := DL_law_1282.2.2.2.2.2.2.2.2.2.2.2.2.2.2.1
theorem dL_law_1304 : decode cL_law 1304 = .ok (.invokevirtual 156, 3) := DL_law_1282.2.2.2.2.2.2.2.2.2.2.2.2.2.2.2.1
theorem DL_law_1307 : dAre cL_law [(1307, .pop, 1), (1308, .aload_n 2, 1), (1309, .aload_n 0, 1), (1310, .iload 4, 2), (1312, .iconst 1, 1), (1313, .iadd, 1), (1314, .iaload, 1), (1315, .invokevirtual 159, 3), (1318, .pop, 1), (1319, .goto 313, 3), (1322, .aload_n 1, 1), (1323, .invokevirtual 160, 3), (1326, .pop, 1), (1327, .aload_n 2, 1), (1328, .invokevirtual 163, 3), (1331, .pop, 1)] := dAre0 (by decide +kernel)
theorem dL_law_1307 : decode cL_law 1307 = .ok (.pop, 1) := DL_law_1307.1
theorem dL_law_1308 : decode cL_law 1308 = .ok (.aload_n 2, 1) := DL_law_1307.2.1
theorem dL_law_1309 : decode cL_law 1309 = .ok (.aload_n 0, 1) := DL_law_1307.2.2.1
theorem dL_law_1310 : decode cL_law 1310 = .ok (.iload 4, 2) := DL_law_1307.2.2.2.1
theorem dL_law_1312 : decode cL_law 1312 = .ok (.iconst 1, 1) := DL_law_1307.2.2.2.2.1
theorem dL_law_1313 : decode cL_law 1313 = .ok (.iadd, 1) := DL_law_1307.2.2.2.2.2.1
theorem dL_law_1314 : decode cL_law 1314 = .ok (.iaload, 1) := DL_law_1307.2.2.2.2.2.2.1
theorem dL_law_1315 : decode cL_law 1315 = .ok (.invokevirtual 159, 3) := DL_law_1307.2.2.2.2.2.2.2.1
theorem dL_law_1318 : decode cL_law 1318 = .ok (.pop, 1) := DL_law_1307.2.2.2.2.2.2.2.2.1
theorem dL_law_1319 : decode cL_law 1319 = .ok (.goto 313, 3) := DL_law_1307.2.2.2.2.2.2.2.2.2.1
theorem dL_law_1322 : decode cL_law 1322 = .ok (.aload_n 1, 1) := DL_law_1307.2.2.2.2.2.2.2.2.2.2.1
theorem dL_law_1323 : decode cL_law 1323 = .ok (.invokevirtual 160, 3) := DL_law_1307.2.2.2.2.2.2.2.2.2.2.2.1
theorem dL_law_1326 : decode cL_law 1326 = .ok (.pop, 1) := DL_law_1307.2.2.2.2.2.2.2.2.2.2.2.2.1
theorem dL_law_1327 : decode cL_law 1327 = .ok (.aload_n 2, 1) := DL_law_1307.2.2.2.2.2.2.2.2.2.2.2.2.2.1
theorem dL_law_1328 : decode cL_law 1328 = .ok (.invokevirtual 163, 3) := DL_law_1307.2.2.2.2.2.2.2.2.2.2.2.2.2.2.1
theorem dL_law_1331 : decode cL_law 1331 = .ok (.pop, 1) := DL_law_1307.2.2.2.2.2.2.2.2.2.2.2.2.2.2.2.1
theorem DL_law_1332 : dAre cL_law [(1332, .goto 300, 3), (1335, .aload_n 1, 1), (1336, .aload_n 0, 1), (1337, .iload 4, 2), (1339, .iconst 1, 1), (1340, .iadd, 1), (1341, .iaload, 1), (1342, .aload_n 0, 1), (1343, .iload 4, 2), (1345, .iconst 2, 1), (1346, .iadd, 1), (1347, .iaload, 1), (1348, .invokevirtual 164, 3), (1351, .pop, 1), (1352, .aload_n 2, 1), (1353, .aload_n 0, 1)] := dAre0 (by decide +kernel)
theorem dL_law_1332 : decode cL_law 1332 = .ok (.goto 300, 3) := DL_law_1332.1
theorem dL_law_1335 : decode cL_law 1335 = .ok (.aload_n 1, 1) := DL_law_1332.2.1
theorem dL_law_1336 : decode cL_law 1336 = .ok (.aload_n 0, 1) := DL_law_1332.2.2.1
theorem dL_law_1337 : decode cL_law 1337 = .ok (.iload 4, 2) := DL_law_1332.2.2.2.1
theorem dL_law_1339 : decode cL_law 1339 = .ok (.iconst 1, 1) := DL_law_1332.2.2.2.2.1
theorem dL_law_1340 : decode cL_law 1340 = .ok (.iadd, 1) := DL_law_1332.2.2.2.2.2.1
theorem dL_law_1341 : decode cL_law 1341 = .ok (.iaload, 1) := DL_law_1332.2.2.2.2.2.2.1
theorem dL_law_1342 : decode cL_law 1342 = .ok (.aload_n 0, 1) := DL_law_1332.2.2.2.2.2.2.2.1
theorem dL_law_1343 : decode cL_law 1343 = .ok (.iload 4, 2) := DL_law_1332.2.2.2.2.2.2.2.2.1
theorem dL_law_1345 : decode cL_law 1345 = .ok (.iconst 2, 1) := DL_law_1332.2.2.2.2.2.2.2.2.2.1
theorem dL_law_1346 : decode cL_law 1346 = .ok (.iadd, 1) := DL_law_1332.2.2.2.2.2.2.2.2.2.2.1
theorem dL_law_1347 : decode cL_law 1347 = .ok (.iaload, 1) := DL_law_1332.2.2.2.2.2.2.2.2.2.2.2.1
theorem dL_law_1348 : decode cL_law 1348 = .ok (.invokevirtual 164, 3) := DL_law_1332.2.2.2.2.2.2.2.2.2.2.2.2.1
theorem dL_law_1351 : decode cL_law 1351 = .ok (.pop, 1) := DL_law_1332.2.2.2.2.2.2.2.2.2.2.2.2.2.1
theorem dL_law_1352 : decode cL_law 1352 = .ok (.aload_n 2, 1) := DL_law_1332.2.2.2.2.2.2.2.2.2.2.2.2.2.2.1
theorem dL_law_1353 : decode cL_law 1353 = .ok (.aload_n 0, 1) := DL_law_1332.2.2.2.2.2.2.2.2.2.2.2.2.2.2.2.1
theorem DL_law_1354 : dAre cL_law [(1354, .iload 4, 2), (1356, .iconst 1, 1), (1357, .iadd, 1), (1358, .iaload, 1), (1359, .aload_n 0, 1), (1360, .iload 4, 2), (1362, .iconst 2, 1), (1363, .iadd, 1), (1364, .iaload, 1), (1365, .invokevirtual 167, 3), (1368, .pop, 1), (1369, .goto 263, 3), (1372, .aload_n 1, 1), (1373, .aload_n 0, 1), (1374, .iload 4, 2), (1376, .iconst 1, 1)] := dAre0 (by decide +kernel)
theorem dL_law_1354 : decode cL_law 1354 = .ok (.iload 4, 2) := DL_law_1354.1
theorem dL_law_1356 : decode cL_law 1356 = .ok (.iconst 1, 1) := DL_law_1354.2.1
theorem dL_law_1357 : decode cL_law 1357 = .ok (.iadd, 1) := DL_law_1354.2.2.1
theorem dL_law_1358 : decode cL_law 1358 = .ok (.iaload, 1) := DL_law_1354.2.2.2.1
theorem dL_law_1359 : decode cL_law 1359 = .ok (.aload_n 0, 1) := DL_law_1354.2.2.2.2.1
theorem dL_law_1360 : decode cL_law 1360 = .ok (.iload 4, 2) := DL_law_1354.2.2.2.2.2.1
theorem dL_law_1362 : decode cL_law 1362 = .ok (.iconst 2, 1) := DL_law_1354.2.2.2.2.2.2.1
theorem dL_law_1363 : decode cL_law 1363 = .ok (.iadd, 1) := DL_law_1354.2.2.2.2.2.2.2.1
theorem dL_law_1364 : decode cL_law 1364 = .ok (.iaload, 1) := DL_law_1354.2.2.2.2.2.2.2.2.1
theorem dL_law_1365 : decode cL_law 1365 = .ok (.invokevirtual 167, 3) := DL_law_1354.2.2.2.2.2.2.2.2.2.1
theorem dL_law_1368 : decode cL_law 1368 = .ok (.pop, 1) := DL_law_1354.2.2.2.2.2.2.2.2.2.2.1
theorem dL_law_1369 : decode cL_law 1369 = .ok (.goto 263, 3) := DL_law_1354.2.2.2.2.2.2.2.2.2.2.2.1
theorem dL_law_1372 : decode cL_law 1372 = .ok (.aload_n 1, 1) := DL_law_1354.2.2.2.2.2.2.2.2.2.2.2.2.1
theorem dL_law_1373 : decode cL_law 1373 = .ok (.aload_n 0, 1) := DL_law_1354.2.2.2.2.2.2.2.2.2.2.2.2.2.1
theorem dL_law_1374 : decode cL_law 1374 = .ok (.iload 4, 2) := DL_law_1354.2.2.2.2.2.2.2.2.2.2.2.2.2.2.1
theorem dL_law_1376 : decode cL_law 1376 = .ok (.iconst 1, 1) := DL_law_1354.2.2.2.2.2.2.2.2.2.2.2.2.2.2.2.1
theorem DL_law_1377 : dAre cL_law [(1377, .iadd, 1), (1378, .iaload, 1), (1379, .aload_n 0, 1), (1380, .iload 4, 2), (1382, .iconst 2, 1), (1383, .iadd, 1), (1384, .iaload, 1), (1385, .aload_n 0, 1), (1386, .iload 4, 2), (1388, .iconst 3, 1), (1389, .iadd, 1), (1390, .iaload, 1), (1391, .aload_n 0, 1), (1392, .iload 4, 2), (1394, .iconst 4, 1), (1395, .iadd, 1)] := dAre0 (by decide +kernel)
theorem dL_law_1377 : decode cL_law 1377 = .ok (.iadd, 1) := DL_law_1377.1
theorem dL_law_1378 : decode cL_law 1378 = .ok (.iaload, 1) := DL_law_1377.2.1
theorem dL_law_1379 : decode cL_law 1379 = .ok (.aload_n 0, 1) := DL_law_1377.2.2.1
theorem dL_law_1380 : decode cL_law 1380 = .ok (.iload 4, 2) := DL_law_1377.2.2.2.1
theorem dL_law_1382 : decode cL_law 1382 = .ok (.iconst 2, 1) := DL_law_1377.2.2.2.2.1
theorem dL_law_1383 : decode cL_law 1383 = .ok (.iadd, 1) := DL_law_1377.2.2.2.2.2.1
theorem dL_law_1384 : decode cL_law 1384 = .ok (.iaload, 1) := DL_law_1377.2.2.2.2.2.2.1
theorem dL_law_1385 : decode cL_law 1385 = .ok (.aload_n 0, 1) := DL_law_1377.2.2.2.2.2.2.2.1
theorem dL_law_1386 : decode cL_law 1386 = .ok (.iload 4, 2) := DL_law_1377.2.2.2.2.2.2.2.2.1
theorem dL_law_1388 : decode cL_law 1388 = .ok (.iconst 3, 1) := DL_law_1377.2.2.2.2.2.2.2.2.2.1
theorem dL_law_1389 : decode cL_law 1389 = .ok (.iadd, 1) := DL_law_1377.2.2.2.2.2.2.2.2.2.2.1
theorem dL_law_1390 : decode cL_law 1390 = .ok (.iaload, 1) := DL_law_1377.2.2.2.2.2.2.2.2.2.2.2.1
theorem dL_law_1391 : decode cL_law 1391 = .ok (.aload_n 0, 1) := DL_law_1377.2.2.2.2.2.2.2.2.2.2.2.2.1
theorem dL_law_1392 : decode cL_law 1392 = .ok (.iload 4, 2) := DL_law_1377.2.2.2.2.2.2.2.2.2.2.2.2.2.1
theorem dL_law_1394 : decode cL_law 1394 = .ok (.iconst 4, 1) := DL_law_1377.2.2.2.2.2.2.2.2.2.2.2.2.2.2.1
theorem dL_law_1395 : decode cL_law 1395 = .ok (.iadd, 1) := DL_law_1377.2.2.2.2.2.2.2.2.2.2.2.2.2.2.2.1
theorem DL_law_1396 : dAre cL_law [(1396, .iaload, 1), (1397, .aload_n 0, 1), (1398, .iload 4, 2), (1400, .iconst 5, 1), (1401, .iadd, 1), (1402, .iaload, 1), (1403, .invokevirtual 168, 3), (1406, .pop, 1), (1407, .aload_n 2, 1), (1408, .aload_n 0, 1), (1409, .iload 4, 2), (1411, .iconst 1, 1), (1412, .iadd, 1), (1413, .iaload, 1), (1414, .aload_n 0, 1), (1415, .iload 4, 2)] := dAre0 (by decide +kernel)
theorem dL_law_1396 : decode cL_law 1396 = .ok (.iaload, 1) := DL_law_1396.1
theorem dL_law_1397 : decode cL_law 1397 = .ok (.aload_n 0, 1) := DL_law_1396.2.1
theorem dL_law_1398 : decode cL_law 1398 = .ok (.iload 4, 2) := DL_law_1396.2.2.1
theorem dL_law_1400 : decode cL_law 1400 = .ok (.iconst 5, 1) := DL_law_1396.2.2.2.1
theorem dL_law_1401 : decode cL_law 1401 = .ok (.iadd, 1) := DL_law_1396.2.2.2.2.1
theorem dL_law_1402 : decode cL_law 1402 = .ok (.iaload, 1) := DL_law_1396.2.2.2.2.2.1
theorem dL_law_1403 : decode cL_law 1403 = .ok (.invokevirtual 168, 3) := DL_law_1396.2.2.2.2.2.2.1
theorem dL_law_1406 : decode cL_law 1406 = .ok (.pop, 1) := DL_law_1396.2.2.2.2.2.2.2.1
theorem dL_law_1407 : decode cL_law 1407 = .ok (.aload_n 2, 1) := DL_law_1396.2.2.2.2.2.2.2.2.1
theorem dL_law_1408 : decode cL_law 1408 = .ok (.aload_n 0, 1) := DL_law_1396.2.2.2.2.2.2.2.2.2.1
theorem dL_law_1409 : decode cL_law 1409 = .ok (.iload 4, 2) := DL_law_1396.2.2.2.2.2.2.2.2.2.2.1
theorem dL_law_1411 : decode cL_law 1411 = .ok (.iconst 1, 1) := DL_law_1396.2.2.2.2.2.2.2.2.2.2.2.1
theorem dL_law_1412 : decode cL_law 1412 = .ok (.iadd, 1) := DL_law_1396.2.2.2.2.2.2.2.2.2.2.2.2.1
theorem dL_law_1413 : decode cL_law 1413 = .ok (.iaload, 1) := DL_law_1396.2.2.2.2.2.2.2.2.2.2.2.2.2.1
theorem dL_law_1414 : decode cL_law 1414 = .ok (.aload_n 0, 1) := DL_law_1396.2.2.2.2.2.2.2.2.2.2.2.2.2.2.1
theorem dL_law_1415 : decode cL_law 1415 = .ok (.iload 4, 2) := DL_law_1396.2.2.2.2.2.2.2.2.2.2.2.2.2.2.2.1
theorem DL_law_1417 : dAre cL_law [(1417, .iconst 2, 1), (1418, .iadd, 1), (1419, .iaload, 1), (1420, .aload_n 0, 1), (1421, .iload 4, 2), (1423, .iconst 3, 1), (1424, .iadd, 1), (1425, .iaload, 1), (1426, .aload_n 0, 1), (1427, .iload 4, 2), (1429, .iconst 4, 1), (1430, .iadd, 1), (1431, .iaload, 1), (1432, .aload_n 0, 1), (1433, .iload 4, 2), (1435, .iconst 5, 1)] := dAre0 (by decide +kernel)
theorem dL_law_1417 : decode cL_law 1417 = .ok (.iconst 2, 1) := DL_law_1417.1
theorem dL_law_1418 : decode cL_law 1418 = .ok (.iadd, 1) := DL_law_1417.2.1
theorem dL_law_1419 : decode cL_law 1419 = .ok (.iaload, 1) := DL_law_1417.2.2.1
theorem dL_law_1420 : decode cL_law 1420 = .ok (.aload_n 0, 1) := DL_law_1417.2.2.2.1
theorem dL_law_1421 : decode cL_law 1421 = .ok (.iload 4, 2) := DL_law_1417.2.2.2.2.1
theorem dL_law_1423 : decode cL_law 1423 = .ok (.iconst 3, 1) := DL_law_1417.2.2.2.2.2.1
theorem dL_law_1424 : decode cL_law 1424 = .ok (.iadd, 1) := DL_law_1417.2.2.2.2.2.2.1
theorem dL_law_1425 : decode cL_law 1425 = .ok (.iaload, 1) := DL_law_1417.2.2.2.2.2.2.2.1
theorem dL_law_1426 : decode cL_law 1426 = .ok (.aload_n 0, 1) := DL_law_1417.2.2.2.2.2.2.2.2.1
theorem dL_law_1427 : decode cL_law 1427 = .ok (.iload 4, 2) := DL_law_1417.2.2.2.2.2.2.2.2.2.1
theorem dL_law_1429 : decode cL_law 1429 = .ok (.iconst 4, 1) := DL_law_1417.2.2.2.2.2.2.2.2.2.2.1
theorem dL_law_1430 : decode cL_law 1430 = .ok (.iadd, 1) := DL_law_1417.2.2.2.2.2.2.2.2.2.2.2.1
theorem dL_law_1431 : decode cL_law 1431 = .ok (.iaload, 1) := DL_law_1417.2.2.2.2.2.2.2.2.2.2.2.2.1
theorem dL_law_1432 : decode cL_law 1432 = .ok (.aload_n 0, 1) := DL_law_1417.2.2.2.2.2.2.2.2.2.2.2.2.2.1
theorem dL_law_1433 : decode cL_law 1433 = .ok (.iload 4, 2) := DL_law_1417.2.2.2.2.2.2.2.2.2.2.2.2.2.2.1
theorem dL_law_1435 : decode cL_law 1435 = .ok (.iconst 5, 1) := DL_law_1417.2.2.2.2.2.2.2.2.2.2.2.2.2.2.2.1
theorem DL_law_1436 : dAre cL_law [(1436, .iadd, 1), (1437, .iaload, 1), (1438, .invokevirtual 171, 3), (1441, .pop, 1), (1442, .goto 190, 3), (1445, .aload_n 1, 1), (1446, .aload_n 0, 1), (1447, .iload 4, 2), (1449, .iconst 1, 1), (1450, .iadd, 1), (1451, .iaload, 1), (1452, .aload_n 0, 1), (1453, .iload 4, 2), (1455, .iconst 2, 1), (1456, .iadd, 1), (1457, .iaload, 1)] := dAre0 (by decide +kernel)
theorem dL_law_1436 : decode cL_law 1436 = .ok (.iadd, 1) := DL_law_1436.1
theorem dL_law_1437 : decode cL_law 1437 = .ok (.iaload, 1) := DL_law_1436.2.1
theorem dL_law_1438 : decode cL_law 1438 = .ok (.invokevirtual 171, 3) := DL_law_1436.2.2.1
theorem dL_law_1441 : decode cL_law 1441 = .ok (.pop, 1) := DL_law_1436.2.2.2.1
theorem dL_law_1442 : decode cL_law 1442 = .ok (.goto 190, 3) := DL_law_1436.2.2.2.2.1
theorem dL_law_1445 : decode cL_law 1445 = .ok (.aload_n 1, 1) := DL_law_1436.2.2.2.2.2.1
theorem dL_law_1446 : decode cL_law 1446 = .ok (.aload_n 0, 1) := DL_law_1436.2.2.2.2.2.2.1
theorem dL_law_1447 : decode cL_law 1447 = .ok (.iload 4, 2) := DL_law_1436.2.2.2.2.2.2.2.1
theorem dL_law_1449 : decode cL_law 1449 = .ok (.iconst 1, 1) := DL_law_1436.2.2.2.2.2.2.2.2.1
theorem dL_law_1450 : decode cL_law 1450 = .ok (.iadd, 1) := DL_law_1436.2.2.2.2.2.2.2.2.2.1
theorem dL_law_1451 : decode cL_law 1451 = .ok (.iaload, 1) := DL_law_1436.2.2.2.2.2.2.2.2.2.2.1
theorem dL_law_1452 : decode cL_law 1452 = .ok (.aload_n 0, 1) := DL_law_1436.2.2.2.2.2.2.2.2.2.2.2.1
theorem dL_law_1453 : decode cL_law 1453 = .ok (.iload 4, 2) := DL_law_1436.2.2.2.2.2.2.2.2.2.2.2.2.1
theorem dL_law_1455 : decode cL_law 1455 = .ok (.iconst 2, 1) := DL_law_1436.2.2.2.2.2.2.2.2.2.2.2.2.2.1
theorem dL_law_1456 : decode cL_law 1456 = .ok (.iadd, 1) := DL_law_1436.2.2.2.2.2.2.2.2.2.2.2.2.2.2.1
theorem dL_law_1457 : decode cL_law 1457 = .ok (.iaload, 1) := DL_law_1436.2.2.2.2.2.2.2.2.2.2.2.2.2.2.2.1
theorem DL_law_1458 : dAre cL_law [(1458, .aload_n 0, 1), (1459, .iload 4, 2), (1461, .iconst 3, 1), (1462, .iadd, 1), (1463, .iaload, 1), (1464, .invokevirtual 172, 3), (1467, .pop, 1), (1468, .aload_n 2, 1), (1469, .aload_n 0, 1), (1470, .iload 4, 2), (1472, .iconst 1, 1), (1473, .iadd, 1), (1474, .iaload, 1), (1475, .aload_n 0, 1), (1476, .iload 4, 2), (1478, .iconst 2, 1)] := dAre0 (by decide +kernel)
theorem dL_law_1458 : decode cL_law 1458 = .ok (.aload_n 0, 1) := DL_law_1458.1
theorem dL_law_1459 : decode cL_law 1459 = .ok (.iload 4, 2) := DL_law_1458.2.1
theorem dL_law_1461 : decode cL_law 1461 = .ok (.iconst 3, 1) := DL_law_1458.2.2.1
theorem dL_law_1462 : decode cL_law 1462 = .ok (.iadd, 1) := DL_law_1458.2.2.2.1
theorem dL_law_1463 : decode cL_law 1463 = .ok (.iaload, 1) := DL_law_1458.2.2.2.2.1
theorem dL_law_1464 : decode cL_law 1464 = .ok (.invokevirtual 172, 3) := DL_law_1458.2.2.2.2.2.1
theorem dL_law_1467 : decode cL_law 1467 = .ok (.pop, 1) := DL_law_1458.2.2.2.2.2.2.1
theorem dL_law_1468 : decode cL_law 1468 = .ok (.aload_n 2, 1) := DL_law_1458.2.2.2.2.2.2.2.1
theorem dL_law_1469 : decode cL_law 1469 = .ok (.aload_n 0, 1) := DL_law_1458.2.2.2.2.2.2.2.2.1
theorem dL_law_1470 : decode cL_law 1470 = .ok (.iload 4, 2) := DL_law_1458.2.2.2.2.2.2.2.2.2.1
theorem dL_law_1472 : decode cL_law 1472 = .ok (.iconst 1, 1) := DL_law_1458.2.2.2.2.2.2.2.2.2.2.1
theorem dL_law_1473 : decode cL_law 1473 = .ok (.iadd, 1) := DL_law_1458.2.2.2.2.2.2.2.2.2.2.2.1
theorem dL_law_1474 : decode cL_law 1474 = .ok (.iaload, 1) := DL_law_1458.2.2.2.2.2.2.2.2.2.2.2.2.1
theorem dL_law_1475 : decode cL_law 1475 = .ok (.aload_n 0, 1) := DL_law_1458.2.2.2.2.2.2.2.2.2.2.2.2.2.1
theorem dL_law_1476 : decode cL_law 1476 = .ok (.iload 4, 2) := DL_law_1458.2.2.2.2.2.2.2.2.2.2.2.2.2.2.1
theorem dL_law_1478 : decode cL_law 1478 = .ok (.iconst 2, 1) := DL_law_1458.2.2.2.2.2.2.2.2.2.2.2.2.2.2.2.1
theorem DL_law_1479 : dAre cL_law [(1479, .iadd, 1), (1480, .iaload, 1), (1481, .aload_n 0, 1), (1482, .iload 4, 2), (1484, .iconst 3, 1), (1485, .iadd, 1), (1486, .iaload, 1), (1487, .invokevirtual 175, 3), (1490, .pop, 1), (1491, .goto 141, 3), (1494, .aload_n 1, 1), (1495, .aload_n 0, 1), (1496, .iload 4, 2), (1498, .iconst 1, 1), (1499, .iadd, 1), (1500, .iaload, 1)] := dAre0 (by decide +kernel)
theorem dL_law_1479 : decode cL_law 1479 = .ok (.iadd, 1) := DL_law_1479.1
theorem dL_law_1480 : decode cL_law 1480 = .ok (.iaload, 1) := DL_law_1479.2.1
theorem dL_law_1481 : decode cL_law 1481 = .ok (.aload_n 0, 1) := DL_law_1479.2.2.1
theorem dL_law_1482 : decode cL_law 1482 = .ok (.iload 4, 2) := DL_law_1479.2.2.2.1
theorem dL_law_1484 : decode cL_law 1484 = .ok (.iconst 3, 1) := DL_law_1479.2.2.2.2.1
theorem dL_law_1485 : decode cL_law 1485 = .ok (.iadd, 1) := DL_law_1479.2.2.2.2.2.1
theorem dL_law_1486 : decode cL_law 1486 = .ok (.iaload, 1) := DL_law_1479.2.2.2.2.2.2.1
theorem dL_law_1487 : decode cL_law 1487 = .ok (.invokevirtual 175, 3) := DL_law_1479.2.2.2.2.2.2.2.1
theorem dL_law_1490 : decode cL_law 1490 = .ok (.pop, 1) := DL_law_1479.2.2.2.2.2.2.2.2.1
theorem dL_law_1491 : decode cL_law 1491 = .ok (.goto 141, 3) := DL_law_1479.2.2.2.2.2.2.2.2.2.1
theorem dL_law_1494 : decode cL_law 1494 = .ok (.aload_n 1, 1) := DL_law_1479.2.2.2.2.2.2.2.2.2.2.1
theorem dL_law_1495 : decode cL_law 1495 = .ok (.aload_n 0, 1) := DL_law_1479.2.2.2.2.2.2.2.2.2.2.2.1
theorem dL_law_1496 : decode cL_law 1496 = .ok (.iload 4, 2) := DL_law_1479.2.2.2.2.2.2.2.2.2.2.2.2.1
theorem dL_law_1498 : decode cL_law 1498 = .ok (.iconst 1, 1) := DL_law_1479.2.2.2.2.2.2.2.2.2.2.2.2.2.1
theorem dL_law_1499 : decode cL_law 1499 = .ok (.iadd, 1) := DL_law_1479.2.2.2.2.2.2.2.2.2.2.2.2.2.2.1
theorem dL_law_1500 : decode cL_law 1500 = .ok (.iaload, 1) := DL_law_1479.2.2.2.2.2.2.2.2.2.2.2.2.2.2.2.1
theorem DL_law_1501 : dAre cL_law [(1501, .aload_n 0, 1), (1502, .iload 4, 2), (1504, .iconst 2, 1), (1505, .iadd, 1), (1506, .iaload, 1), (1507, .invokevirtual 176, 3), (1510, .pop, 1), (1511, .aload_n 2, 1), (1512, .aload_n 0, 1), (1513, .iload 4, 2), (1515, .iconst 1, 1), (1516, .iadd, 1), (1517, .iaload, 1), (1518, .aload_n 0, 1), (1519, .iload 4, 2), (1521, .iconst 2, 1)] := dAre0 (by decide +kernel)
theorem dL_law_1501 : decode cL_law 1501 = .ok (.aload_n 0, 1) := DL_law_1501.1
theorem dL_law_1502 : decode cL_law 1502 = .ok (.iload 4, 2) := DL_law_1501.2.1
theorem dL_law_1504 : decode cL_law 1504 = .ok (.iconst 2, 1) := DL_law_1501.2.2.1
theorem dL_law_1505 : decode cL_law 1505 = .ok (.iadd, 1) := DL_law_1501.2.2.2.1
theorem dL_law_1506 : decode cL_law 1506 = .ok (.iaload, 1) := DL_law_1501.2.2.2.2.1
theorem dL_law_1507 : decode cL_law 1507 = .ok (.invokevirtual 176, 3) := DL_law_1501.2.2.2.2.2.1
theorem dL_law_1510 : decode cL_law 1510 = .ok (.pop, 1) := DL_law_1501.2.2.2.2.2.2.1
theorem dL_law_1511 : decode cL_law 1511 = .ok (.aload_n 2, 1) := DL_law_1501.2.2.2.2.2.2.2.1
theorem dL_law_1512 : decode cL_law 1512 = .ok (.aload_n 0, 1) := DL_law_1501.2.2.2.2.2.2.2.2.1
theorem dL_law_1513 : decode cL_law 1513 = .ok (.iload 4, 2) := DL_law_1501.2.2.2.2.2.2.2.2.2.1
theorem dL_law_1515 : decode cL_law 1515 = .ok (.iconst 1, 1) := DL_law_1501.2.2.2.2.2.2.2.2.2.2.1
theorem dL_law_1516 : decode cL_law 1516 = .ok (.iadd, 1) := DL_law_1501.2.2.2.2.2.2.2.2.2.2.2.1
theorem dL_law_1517 : decode cL_law 1517 = .ok (.iaload, 1) := DL_law_1501.2.2.2.2.2.2.2.2.2.2.2.2.1
theorem dL_law_1518 : decode cL_law 1518 = .ok (.aload_n 0, 1) := DL_law_1501.2.2.2.2.2.2.2.2.2.2.2.2.2.1
theorem dL_law_1519 : decode cL_law 1519 = .ok (.iload 4, 2) := DL_law_1501.2.2.2.2.2.2.2.2.2.2.2.2.2.2.1
theorem dL_law_1521 : decode cL_law 1521 = .ok (.iconst 2, 1) := DL_law_1501.2.2.2.2.2.2.2.2.2.2.2.2.2.2.2.1
theorem DL_law_1522 : dAre cL_law [(1522, .iadd, 1), (1523, .iaload, 1), (1524, .invokevirtual 179, 3), (1527, .pop, 1), (1528, .goto 104, 3), (1531, .aload_n 1, 1), (1532, .aload_n 0, 1), (1533, .iload 4, 2), (1535, .iconst 1, 1), (1536, .iadd, 1), (1537, .iaload, 1), (1538, .invokevirtual 180, 3), (1541, .pop, 1), (1542, .aload_n 2, 1), (1543, .aload_n 0, 1), (1544, .iload 4, 2)] := dAre0 (by decide +kernel)
theorem dL_law_1522 : decode cL_law 1522 = .ok (.iadd, 1) := DL_law_1522.1
theorem dL_law_1523 : decode cL_law 1523 = .ok (.iaload, 1) := DL_law_1522.2.1
theorem dL_law_1524 : decode cL_law 1524 = .ok (.invokevirtual 179, 3) := DL_law_1522.2.2.1
theorem dL_law_1527 : decode cL_law 1527 = .ok (.pop, 1) := DL_law_1522.2.2.2.1
theorem dL_law_1528 : decode cL_law 1528 = .ok (.goto 104, 3) := DL_law_1522.2.2.2.2.1
theorem dL_law_1531 : decode cL_law 1531 = .ok (.aload_n 1, 1) := DL_law_1522.2.2.2.2.2.1
theorem dL_law_1532 : decode cL_law 1532 = .ok (.aload_n 0, 1) := DL_law_1522.2.2.2.2.2.2.1
theorem dL_law_1533 : decode cL_law 1533 = .ok (.iload 4, 2) := DL_law_1522.2.2.2.2.2.2.2.1
theorem dL_law_1535 : decode cL_law 1535 = .ok (.iconst 1, 1) := DL_law_1522.2.2.2.2.2.2.2.2.1
theorem dL_law_1536 : decode cL_law 1536 = .ok (.iadd, 1) := DL_law_1522.2.2.2.2.2.2.2.2.2.1
theorem dL_law_1537 : decode cL_law 1537 = .ok (.iaload, 1) := DL_law_1522.2.2.2.2.2.2.2.2.2.2.1
theorem dL_law_1538 : decode cL_law 1538 = .ok (.invokevirtual 180, 3) := DL_law_1522.2.2.2.2.2.2.2.2.2.2.2.1
theorem dL_law_1541 : decode cL_law 1541 = .ok (.pop, 1) := DL_law_1522.2.2.2.2.2.2.2.2.2.2.2.2.1
theorem dL_law_1542 : decode cL_law 1542 = .ok (.aload_n 2, 1) := DL_law_1522.2.2.2.2.2.2.2.2.2.2.2.2.2.1
theorem dL_law_1543 : decode cL_law 1543 = .ok (.aload_n 0, 1) := DL_law_1522.2.2.2.2.2.2.2.2.2.2.2.2.2.2.1
theorem dL_law_1544 : decode cL_law 1544 = .ok (.iload 4, 2) := DL_law_1522.2.2.2.2.2.2.2.2.2.2.2.2.2.2.2.1
theorem DL_law_1546 : dAre cL_law [(1546, .iconst 1, 1), (1547, .iadd, 1), (1548, .iaload, 1), (1549, .invokevirtual 183, 3), (1552, .pop, 1), (1553, .goto 79, 3), (1556, .aload_n 1, 1), (1557, .aload_n 0, 1), (1558, .iload 4, 2), (1560, .iconst 1, 1), (1561, .iadd, 1), (1562, .iaload, 1), (1563, .invokevirtual 184, 3), (1566, .pop, 1), (1567, .aload_n 2, 1), (1568, .aload_n 0, 1)] := dAre0 (by decide +kernel)
theorem dL_law_1546 : decode cL_law 1546 = .ok (.iconst 1, 1) := DL_law_1546.1
theorem dL_law_1547 : decode cL_law 1547 = .ok (.iadd, 1) := DL_law_1546.2.1
theorem dL_law_1548 : decode cL_law 1548 = .ok (.iaload, 1) := DL_law_1546.2.2.1
theorem dL_law_1549 : decode cL_law 1549 = .ok (.invokevirtual 183, 3) := DL_law_1546.2.2.2.1
theorem dL_law_1552 : decode cL_law 1552 = .ok (.pop, 1) := DL_law_1546.2.2.2.2.1
theorem dL_law_1553 : decode cL_law 1553 = .ok (.goto 79, 3) := DL_law_1546.2.2.2.2.2.1
theorem dL_law_1556 : decode cL_law 1556 = .ok (.aload_n 1, 1) := DL_law_1546.2.2.2.2.2.2.1
theorem dL_law_1557 : decode cL_law 1557 = .ok (.aload_n 0, 1) := DL_law_1546.2.2.2.2.2.2.2.1
theorem dL_law_1558 : decode cL_law 1558 = .ok (.iload 4, 2) := DL_law_1546.2.2.2.2.2.2.2.2.1
theorem dL_law_1560 : decode cL_law 1560 = .ok (.iconst 1, 1) := DL_law_1546.2.2.2.2.2.2.2.2.2.1
theorem dL_law_1561 : decode cL_law 1561 = .ok (.iadd, 1) := DL_law_1546.2.2.2.2.2.2.2.2.2.2.1
theorem dL_law_1562 : decode cL_law 1562 = .ok (.iaload, 1) := DL_law_1546.2.2.2.2.2.2.2.2.2.2.2.1
theorem dL_law_1563 : decode cL_law 1563 = .ok (.invokevirtual 184, 3) := DL_law_1546.2.2.2.2.2.2.2.2.2.2.2.2.1
theorem dL_law_1566 : decode cL_law 1566 = .ok (.pop, 1) := DL_law_1546.2.2.2.2.2.2.2.2.2.2.2.2.2.1
theorem dL_law_1567 : decode cL_law 1567 = .ok (.aload_n 2, 1) := DL_law_1546.2.2.2.2.2.2.2.2.2.2.2.2.2.2.1
theorem dL_law_1568 : decode cL_law 1568 = .ok (.aload_n 0, 1) := DL_law_1546.2.2.2.2.2.2.2.2.2.2.2.2.2.2.2.1
theorem DL_law_1569 : dAre cL_law [(1569, .iload 4, 2), (1571, .iconst 1, 1), (1572, .iadd, 1), (1573, .iaload, 1), (1574, .invokevirtual 187, 3), (1577, .pop, 1), (1578, .goto 54, 3), (1581, .aload_n 1, 1), (1582, .invokevirtual 188, 3), (1585, .pop, 1), (1586, .aload_n 2, 1), (1587, .invokevirtual 191, 3), (1590, .pop, 1), (1591, .goto 41, 3), (1594, .aload_n 1, 1), (1595, .invokevirtual 192, 3)] := dAre0 (by decide +kernel)
theorem dL_law_1569 : decode cL_law 1569 = .ok (.iload 4, 2) := DL_law_1569.1
theorem dL_law_1571 : decode cL_law 1571 = .ok (.iconst 1, 1) := DL_law_1569.2.1
theorem dL_law_1572 : decode cL_law 1572 = .ok (.iadd, 1) := DL_law_1569.2.2.1
theorem dL_law_1573 : decode cL_law 1573 = .ok (.iaload, 1) := DL_law_1569.2.2.2.1
theorem dL_law_1574 : decode cL_law 1574 = .ok (.invokevirtual 187, 3) := DL_law_1569.2.2.2.2.1
theorem dL_law_1577 : decode cL_law 1577 = .ok (.pop, 1) := DL_law_1569.2.2.2.2.2.1
theorem dL_law_1578 : decode cL_law 1578 = .ok (.goto 54, 3) := DL_law_1569.2.2.2.2.2.2.1
theorem dL_law_1581 : decode cL_law 1581 = .ok (.aload_n 1, 1) := DL_law_1569.2.2.2.2.2.2.2.1
theorem dL_law_1582 : decode cL_law 1582 = .ok (.invokevirtual 188, 3) := DL_law_1569.2.2.2.2.2.2.2.2.1
theorem dL_law_1585 : decode cL_law 1585 = .ok (.pop, 1) := DL_law_1569.2.2.2.2.2.2.2.2.2.1
theorem dL_law_1586 : decode cL_law 1586 = .ok (.aload_n 2, 1) := DL_law_1569.2.2.2.2.2.2.2.2.2.2.1
theorem dL_law_1587 : decode cL_law 1587 = .ok (.invokevirtual 191, 3) := DL_law_1569.2.2.2.2.2.2.2.2.2.2.2.1
theorem dL_law_1590 : decode cL_law 1590 = .ok (.pop, 1) := DL_law_1569.2.2.2.2.2.2.2.2.2.2.2.2.1
theorem dL_law_1591 : decode cL_law 1591 = .ok (.goto 41, 3) := DL_law_1569.2.2.2.2.2.2.2.2.2.2.2.2.2.1
theorem dL_law_1594 : decode cL_law 1594 = .ok (.aload_n 1, 1) := DL_law_1569.2.2.2.2.2.2.2.2.2.2.2.2.2.2.1
theorem dL_law_1595 : decode cL_law 1595 = .ok (.invokevirtual 192, 3) := DL_law_1569.2.2.2.2.2.2.2.2.2.2.2.2.2.2.2.1
theorem DL_law_1598 : dAre cL_law [(1598, .pop, 1), (1599, .aload_n 2, 1), (1600, .invokevirtual 195, 3), (1603, .pop, 1), (1604, .goto 28, 3), (1607, .aload_n 1, 1), (1608, .aload_n 0, 1), (1609, .iload 4, 2), (1611, .iconst 1, 1), (1612, .iadd, 1), (1613, .iaload, 1), (1614, .invokevirtual 196, 3), (1617, .pop, 1), (1618, .aload_n 2, 1), (1619, .aload_n 0, 1), (1620, .iload 4, 2)] := dAre0 (by decide +kernel)
theorem dL_law_1598 : decode cL_law 1598 = .ok (.pop, 1) := DL_law_1598.1
theorem dL_law_1599 : decode cL_law 1599 = .ok (.aload_n 2, 1) := DL_law_1598.2.1
theorem dL_law_1600 : decode cL_law 1600 = .ok (.invokevirtual 195, 3) := DL_law_1598.2.2.1
theorem dL_law_1603 : decode cL_law 1603 = .ok (.pop, 1) := DL_law_1598.2.2.2.1
theorem dL_law_1604 : decode cL_law 1604 = .ok (.goto 28, 3) := DL_law_1598.2.2.2.2.1
theorem dL_law_1607 : decode cL_law 1607 = .ok (.aload_n 1, 1) := DL_law_1598.2.2.2.2.2.1
theorem dL_law_1608 : decode cL_law 1608 = .ok (.aload_n 0, 1) := DL_law_1598.2.2.2.2.2.2.1
theorem dL_law_1609 : decode cL_law 1609 = .ok (.iload 4, 2) := DL_law_1598.2.2.2.2.2.2.2.1
theorem dL_law_1611 : decode cL_law 1611 = .ok (.iconst 1, 1) := DL_law_1598.2.2.2.2.2.2.2.2.1
theorem dL_law_1612 : decode cL_law 1612 = .ok (.iadd, 1) := DL_law_1598.2.2.2.2.2.2.2.2.2.1
theorem dL_law_1613 : decode cL_law 1613 = .ok (.iaload, 1) := DL_law_1598.2.2.2.2.2.2.2.2.2.2.1
theorem dL_law_1614 : decode cL_law 1614 = .ok (.invokevirtual 196, 3) := DL_law_1598.2.2.2.2.2.2.2.2.2.2.2.1
theorem dL_law_1617 : decode cL_law 1617 = .ok (.pop, 1) := DL_law_1598.2.2.2.2.2.2.2.2.2.2.2.2.1
theorem dL_law_1618 : decode cL_law 1618 = .ok (.aload_n 2, 1) := DL_law_1598.2.2.2.2.2.2.2.2.2.2.2.2.2.1
theorem dL_law_1619 : decode cL_law 1619 = .ok (.aload_n 0, 1) := DL_law_1598.2.2.2.2.2.2.2.2.2.2.2.2.2.2.1
theorem dL_law_1620 : decode cL_law 1620 = .ok (.iload 4, 2) := DL_law_1598.2.2.2.2.2.2.2.2.2.2.2.2.2.2.2.1
theorem DL_law_1622 : dAre cL_law [(1622, .iconst 1, 1), (1623, .iadd, 1), (1624, .iaload, 1), (1625, .invokevirtual 199, 3), (1628, .pop, 1), (1629, .goto 3, 3), (1632, .iinc 4 6, 3), (1635, .goto (-1612), 3), (1638, .iconst 1, 1), (1639, .ireturn, 1)] := dAre0 (by decide +kernel)
theorem dL_law_1622 : decode cL_law 1622 = .ok (.iconst 1, 1) := DL_law_1622.1
theorem dL_law_1623 : decode cL_law 1623 = .ok (.iadd, 1) := DL_law_1622.2.1
theorem dL_law_1624 : decode cL_law 1624 = .ok (.iaload, 1) := DL_law_1622.2.2.1
theorem dL_law_1625 : decode cL_law 1625 = .ok (.invokevirtual 199, 3) := DL_law_1622.2.2.2.1
theorem dL_law_1628 : decode cL_law 1628 = .ok (.pop, 1) := DL_law_1622.2.2.2.2.1
theorem dL_law_1629 : decode cL_law 1629 = .ok (.goto 3, 3) := DL_law_1622.2.2.2.2.2.1
theorem dL_law_1632 : decode cL_law 1632 = .ok (.iinc 4 6, 3) := DL_law_1622.2.2.2.2.2.2.1
theorem dL_law_1635 : decode cL_law 1635 = .ok (.goto (-1612), 3) := DL_law_1622.2.2.2.2.2.2.2.1
theorem dL_law_1638 : decode cL_law 1638 = .ok (.iconst 1, 1) := DL_law_1622.2.2.2.2.2.2.2.2.1
theorem dL_law_1639 : decode cL_law 1639 = .ok (.ireturn, 1) := DL_law_1622.2.2.2.2.2.2.2.2.2.1
