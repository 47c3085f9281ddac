/-! The law, case by case. -/
theorem dl_0 : decode code 0 = .ok (.new 7, 3) := mlok_0 (0, .new 7, 3) (List.mem_of_getElem? (i := 0) rfl)
theorem dl_3 : decode code 3 = .ok (.dup, 1) := mlok_0 (3, .dup, 1) (List.mem_of_getElem? (i := 1) rfl)
theorem dl_4 : decode code 4 = .ok (.invokespecial 9, 3) := mlok_0 (4, .invokespecial 9, 3) (List.mem_of_getElem? (i := 2) rfl)
theorem dl_7 : decode code 7 = .ok (.astore_n 1, 1) := mlok_0 (7, .astore_n 1, 1) (List.mem_of_getElem? (i := 3) rfl)
theorem dl_8 : decode code 8 = .ok (.new 10, 3) := mlok_0 (8, .new 10, 3) (List.mem_of_getElem? (i := 4) rfl)
theorem dl_11 : decode code 11 = .ok (.dup, 1) := mlok_0 (11, .dup, 1) (List.mem_of_getElem? (i := 5) rfl)
theorem dl_12 : decode code 12 = .ok (.invokespecial 12, 3) := mlok_0 (12, .invokespecial 12, 3) (List.mem_of_getElem? (i := 6) rfl)
theorem dl_15 : decode code 15 = .ok (.astore_n 2, 1) := mlok_0 (15, .astore_n 2, 1) (List.mem_of_getElem? (i := 7) rfl)
theorem dl_16 : decode code 16 = .ok (.iconst 0, 1) := mlok_0 (16, .iconst 0, 1) (List.mem_of_getElem? (i := 8) rfl)
theorem dl_17 : decode code 17 = .ok (.istore_n 3, 1) := mlok_0 (17, .istore_n 3, 1) (List.mem_of_getElem? (i := 9) rfl)
theorem dl_18 : decode code 18 = .ok (.iload_n 3, 1) := mlok_0 (18, .iload_n 3, 1) (List.mem_of_getElem? (i := 10) rfl)
theorem dl_19 : decode code 19 = .ok (.aload_n 0, 1) := mlok_0 (19, .aload_n 0, 1) (List.mem_of_getElem? (i := 11) rfl)
theorem dl_20 : decode code 20 = .ok (.arraylength, 1) := mlok_0 (20, .arraylength, 1) (List.mem_of_getElem? (i := 12) rfl)
theorem dl_21 : decode code 21 = .ok (.bipush 8, 2) := mlok_0 (21, .bipush 8, 2) (List.mem_of_getElem? (i := 13) rfl)
theorem dl_23 : decode code 23 = .ok (.isub, 1) := mlok_0 (23, .isub, 1) (List.mem_of_getElem? (i := 14) rfl)
theorem dl_24 : decode code 24 = .ok (.if_icmp .gt 1898, 3) := mlok_0 (24, .if_icmp .gt 1898, 3) (List.mem_of_getElem? (i := 15) rfl)
theorem dl_27 : decode code 27 = .ok (.aload_n 0, 1) := mlok_0 (27, .aload_n 0, 1) (List.mem_of_getElem? (i := 16) rfl)
theorem dl_28 : decode code 28 = .ok (.iload_n 3, 1) := mlok_0 (28, .iload_n 3, 1) (List.mem_of_getElem? (i := 17) rfl)
theorem dl_29 : decode code 29 = .ok (.iaload, 1) := mlok_0 (29, .iaload, 1) (List.mem_of_getElem? (i := 18) rfl)
theorem dl_30 : decode code 30 = .ok (.bipush 63, 2) := mlok_0 (30, .bipush 63, 2) (List.mem_of_getElem? (i := 19) rfl)
theorem dl_32 : decode code 32 = .ok (.iand, 1) := mlok_0 (32, .iand, 1) (List.mem_of_getElem? (i := 20) rfl)
theorem dl_33 : decode code 33 = .ok (.tableswitch 1883 0 35 #[159, 222, 245, 278, 301, 334, 377, 410, 443, 486, 529, 592, 667, 710, 773, 816, 859, 912, 1015, 1048, 1091, 1161, 1214, 1294, 1363, 1443, 1496, 1539, 1582, 1615, 1658, 1701, 1744, 1814, 1837, 1860], 159) := mlok_0 (33, .tableswitch 1883 0 35 #[159, 222, 245, 278, 301, 334, 377, 410, 443, 486, 529, 592, 667, 710, 773, 816, 859, 912, 1015, 1048, 1091, 1161, 1214, 1294, 1363, 1443, 1496, 1539, 1582, 1615, 1658, 1701, 1744, 1814, 1837, 1860], 159) (List.mem_of_getElem? (i := 21) rfl)
theorem dl_192 : decode code 192 = .ok (.aload_n 1, 1) := mlok_0 (192, .aload_n 1, 1) (List.mem_of_getElem? (i := 22) rfl)
theorem dl_193 : decode code 193 = .ok (.aload_n 0, 1) := mlok_0 (193, .aload_n 0, 1) (List.mem_of_getElem? (i := 23) rfl)
theorem dl_194 : decode code 194 = .ok (.iload_n 3, 1) := mlok_0 (194, .iload_n 3, 1) (List.mem_of_getElem? (i := 24) rfl)
theorem dl_195 : decode code 195 = .ok (.iconst 1, 1) := mlok_0 (195, .iconst 1, 1) (List.mem_of_getElem? (i := 25) rfl)
theorem dl_196 : decode code 196 = .ok (.iadd, 1) := mlok_0 (196, .iadd, 1) (List.mem_of_getElem? (i := 26) rfl)
theorem dl_197 : decode code 197 = .ok (.iaload, 1) := mlok_0 (197, .iaload, 1) (List.mem_of_getElem? (i := 27) rfl)
theorem dl_198 : decode code 198 = .ok (.aload_n 0, 1) := mlok_0 (198, .aload_n 0, 1) (List.mem_of_getElem? (i := 28) rfl)
theorem dl_199 : decode code 199 = .ok (.iload_n 3, 1) := mlok_0 (199, .iload_n 3, 1) (List.mem_of_getElem? (i := 29) rfl)
theorem dl_200 : decode code 200 = .ok (.iconst 2, 1) := mlok_0 (200, .iconst 2, 1) (List.mem_of_getElem? (i := 30) rfl)
theorem dl_201 : decode code 201 = .ok (.iadd, 1) := mlok_0 (201, .iadd, 1) (List.mem_of_getElem? (i := 31) rfl)
theorem dl_202 : decode code 202 = .ok (.iaload, 1) := mlok_0 (202, .iaload, 1) (List.mem_of_getElem? (i := 32) rfl)
theorem dl_203 : decode code 203 = .ok (.aload_n 0, 1) := mlok_0 (203, .aload_n 0, 1) (List.mem_of_getElem? (i := 33) rfl)
theorem dl_204 : decode code 204 = .ok (.iload_n 3, 1) := mlok_0 (204, .iload_n 3, 1) (List.mem_of_getElem? (i := 34) rfl)
theorem dl_205 : decode code 205 = .ok (.iconst 3, 1) := mlok_0 (205, .iconst 3, 1) (List.mem_of_getElem? (i := 35) rfl)
theorem dl_206 : decode code 206 = .ok (.iadd, 1) := mlok_0 (206, .iadd, 1) (List.mem_of_getElem? (i := 36) rfl)
theorem dl_207 : decode code 207 = .ok (.iaload, 1) := mlok_0 (207, .iaload, 1) (List.mem_of_getElem? (i := 37) rfl)
theorem dl_208 : decode code 208 = .ok (.aload_n 0, 1) := mlok_0 (208, .aload_n 0, 1) (List.mem_of_getElem? (i := 38) rfl)
theorem dl_209 : decode code 209 = .ok (.iload_n 3, 1) := mlok_0 (209, .iload_n 3, 1) (List.mem_of_getElem? (i := 39) rfl)
theorem dl_210 : decode code 210 = .ok (.iconst 4, 1) := mlok_0 (210, .iconst 4, 1) (List.mem_of_getElem? (i := 40) rfl)
theorem dl_211 : decode code 211 = .ok (.iadd, 1) := mlok_0 (211, .iadd, 1) (List.mem_of_getElem? (i := 41) rfl)
theorem dl_212 : decode code 212 = .ok (.iaload, 1) := mlok_0 (212, .iaload, 1) (List.mem_of_getElem? (i := 42) rfl)
theorem dl_213 : decode code 213 = .ok (.aload_n 0, 1) := mlok_0 (213, .aload_n 0, 1) (List.mem_of_getElem? (i := 43) rfl)
theorem dl_214 : decode code 214 = .ok (.iload_n 3, 1) := mlok_0 (214, .iload_n 3, 1) (List.mem_of_getElem? (i := 44) rfl)
theorem dl_215 : decode code 215 = .ok (.iconst 5, 1) := mlok_0 (215, .iconst 5, 1) (List.mem_of_getElem? (i := 45) rfl)
theorem dl_216 : decode code 216 = .ok (.iadd, 1) := mlok_0 (216, .iadd, 1) (List.mem_of_getElem? (i := 46) rfl)
theorem dl_217 : decode code 217 = .ok (.iaload, 1) := mlok_0 (217, .iaload, 1) (List.mem_of_getElem? (i := 47) rfl)
theorem dl_218 : decode code 218 = .ok (.invokevirtual 13, 3) := mlok_0 (218, .invokevirtual 13, 3) (List.mem_of_getElem? (i := 48) rfl)
theorem dl_221 : decode code 221 = .ok (.aload_n 2, 1) := mlok_0 (221, .aload_n 2, 1) (List.mem_of_getElem? (i := 49) rfl)
theorem dl_222 : decode code 222 = .ok (.aload_n 0, 1) := mlok_1 (222, .aload_n 0, 1) (List.mem_of_getElem? (i := 0) rfl)
theorem dl_223 : decode code 223 = .ok (.iload_n 3, 1) := mlok_1 (223, .iload_n 3, 1) (List.mem_of_getElem? (i := 1) rfl)
theorem dl_224 : decode code 224 = .ok (.iconst 1, 1) := mlok_1 (224, .iconst 1, 1) (List.mem_of_getElem? (i := 2) rfl)
theorem dl_225 : decode code 225 = .ok (.iadd, 1) := mlok_1 (225, .iadd, 1) (List.mem_of_getElem? (i := 3) rfl)
theorem dl_226 : decode code 226 = .ok (.iaload, 1) := mlok_1 (226, .iaload, 1) (List.mem_of_getElem? (i := 4) rfl)
theorem dl_227 : decode code 227 = .ok (.aload_n 0, 1) := mlok_1 (227, .aload_n 0, 1) (List.mem_of_getElem? (i := 5) rfl)
theorem dl_228 : decode code 228 = .ok (.iload_n 3, 1) := mlok_1 (228, .iload_n 3, 1) (List.mem_of_getElem? (i := 6) rfl)
theorem dl_229 : decode code 229 = .ok (.iconst 2, 1) := mlok_1 (229, .iconst 2, 1) (List.mem_of_getElem? (i := 7) rfl)
theorem dl_230 : decode code 230 = .ok (.iadd, 1) := mlok_1 (230, .iadd, 1) (List.mem_of_getElem? (i := 8) rfl)
theorem dl_231 : decode code 231 = .ok (.iaload, 1) := mlok_1 (231, .iaload, 1) (List.mem_of_getElem? (i := 9) rfl)
theorem dl_232 : decode code 232 = .ok (.aload_n 0, 1) := mlok_1 (232, .aload_n 0, 1) (List.mem_of_getElem? (i := 10) rfl)
theorem dl_233 : decode code 233 = .ok (.iload_n 3, 1) := mlok_1 (233, .iload_n 3, 1) (List.mem_of_getElem? (i := 11) rfl)
theorem dl_234 : decode code 234 = .ok (.iconst 3, 1) := mlok_1 (234, .iconst 3, 1) (List.mem_of_getElem? (i := 12) rfl)
theorem dl_235 : decode code 235 = .ok (.iadd, 1) := mlok_1 (235, .iadd, 1) (List.mem_of_getElem? (i := 13) rfl)
theorem dl_236 : decode code 236 = .ok (.iaload, 1) := mlok_1 (236, .iaload, 1) (List.mem_of_getElem? (i := 14) rfl)
theorem dl_237 : decode code 237 = .ok (.aload_n 0, 1) := mlok_1 (237, .aload_n 0, 1) (List.mem_of_getElem? (i := 15) rfl)
theorem dl_238 : decode code 238 = .ok (.iload_n 3, 1) := mlok_1 (238, .iload_n 3, 1) (List.mem_of_getElem? (i := 16) rfl)
theorem dl_239 : decode code 239 = .ok (.iconst 4, 1) := mlok_1 (239, .iconst 4, 1) (List.mem_of_getElem? (i := 17) rfl)
theorem dl_240 : decode code 240 = .ok (.iadd, 1) := mlok_1 (240, .iadd, 1) (List.mem_of_getElem? (i := 18) rfl)
theorem dl_241 : decode code 241 = .ok (.iaload, 1) := mlok_1 (241, .iaload, 1) (List.mem_of_getElem? (i := 19) rfl)
theorem dl_242 : decode code 242 = .ok (.aload_n 0, 1) := mlok_1 (242, .aload_n 0, 1) (List.mem_of_getElem? (i := 20) rfl)
theorem dl_243 : decode code 243 = .ok (.iload_n 3, 1) := mlok_1 (243, .iload_n 3, 1) (List.mem_of_getElem? (i := 21) rfl)
theorem dl_244 : decode code 244 = .ok (.iconst 5, 1) := mlok_1 (244, .iconst 5, 1) (List.mem_of_getElem? (i := 22) rfl)
theorem dl_245 : decode code 245 = .ok (.iadd, 1) := mlok_1 (245, .iadd, 1) (List.mem_of_getElem? (i := 23) rfl)
theorem dl_246 : decode code 246 = .ok (.iaload, 1) := mlok_1 (246, .iaload, 1) (List.mem_of_getElem? (i := 24) rfl)
theorem dl_247 : decode code 247 = .ok (.invokevirtual 17, 3) := mlok_1 (247, .invokevirtual 17, 3) (List.mem_of_getElem? (i := 25) rfl)
theorem dl_250 : decode code 250 = .ok (.if_icmp .eq 1666, 3) := mlok_1 (250, .if_icmp .eq 1666, 3) (List.mem_of_getElem? (i := 26) rfl)
theorem dl_253 : decode code 253 = .ok (.iconst 0, 1) := mlok_1 (253, .iconst 0, 1) (List.mem_of_getElem? (i := 27) rfl)
theorem dl_254 : decode code 254 = .ok (.ireturn, 1) := mlok_1 (254, .ireturn, 1) (List.mem_of_getElem? (i := 28) rfl)
theorem dl_255 : decode code 255 = .ok (.aload_n 1, 1) := mlok_1 (255, .aload_n 1, 1) (List.mem_of_getElem? (i := 29) rfl)
theorem dl_256 : decode code 256 = .ok (.aload_n 0, 1) := mlok_1 (256, .aload_n 0, 1) (List.mem_of_getElem? (i := 30) rfl)
theorem dl_257 : decode code 257 = .ok (.iload_n 3, 1) := mlok_1 (257, .iload_n 3, 1) (List.mem_of_getElem? (i := 31) rfl)
theorem dl_258 : decode code 258 = .ok (.iconst 1, 1) := mlok_1 (258, .iconst 1, 1) (List.mem_of_getElem? (i := 32) rfl)
theorem dl_259 : decode code 259 = .ok (.iadd, 1) := mlok_1 (259, .iadd, 1) (List.mem_of_getElem? (i := 33) rfl)
theorem dl_260 : decode code 260 = .ok (.iaload, 1) := mlok_1 (260, .iaload, 1) (List.mem_of_getElem? (i := 34) rfl)
theorem dl_261 : decode code 261 = .ok (.invokevirtual 18, 3) := mlok_1 (261, .invokevirtual 18, 3) (List.mem_of_getElem? (i := 35) rfl)
theorem dl_264 : decode code 264 = .ok (.aload_n 2, 1) := mlok_1 (264, .aload_n 2, 1) (List.mem_of_getElem? (i := 36) rfl)
theorem dl_265 : decode code 265 = .ok (.aload_n 0, 1) := mlok_1 (265, .aload_n 0, 1) (List.mem_of_getElem? (i := 37) rfl)
theorem dl_266 : decode code 266 = .ok (.iload_n 3, 1) := mlok_1 (266, .iload_n 3, 1) (List.mem_of_getElem? (i := 38) rfl)
theorem dl_267 : decode code 267 = .ok (.iconst 1, 1) := mlok_1 (267, .iconst 1, 1) (List.mem_of_getElem? (i := 39) rfl)
theorem dl_268 : decode code 268 = .ok (.iadd, 1) := mlok_1 (268, .iadd, 1) (List.mem_of_getElem? (i := 40) rfl)
theorem dl_269 : decode code 269 = .ok (.iaload, 1) := mlok_1 (269, .iaload, 1) (List.mem_of_getElem? (i := 41) rfl)
theorem dl_270 : decode code 270 = .ok (.invokevirtual 22, 3) := mlok_1 (270, .invokevirtual 22, 3) (List.mem_of_getElem? (i := 42) rfl)
theorem dl_273 : decode code 273 = .ok (.if_icmp .eq 1643, 3) := mlok_1 (273, .if_icmp .eq 1643, 3) (List.mem_of_getElem? (i := 43) rfl)
theorem dl_276 : decode code 276 = .ok (.iconst 0, 1) := mlok_1 (276, .iconst 0, 1) (List.mem_of_getElem? (i := 44) rfl)
theorem dl_277 : decode code 277 = .ok (.ireturn, 1) := mlok_1 (277, .ireturn, 1) (List.mem_of_getElem? (i := 45) rfl)
theorem dl_278 : decode code 278 = .ok (.aload_n 1, 1) := mlok_1 (278, .aload_n 1, 1) (List.mem_of_getElem? (i := 46) rfl)
theorem dl_279 : decode code 279 = .ok (.aload_n 0, 1) := mlok_1 (279, .aload_n 0, 1) (List.mem_of_getElem? (i := 47) rfl)
theorem dl_280 : decode code 280 = .ok (.iload_n 3, 1) := mlok_1 (280, .iload_n 3, 1) (List.mem_of_getElem? (i := 48) rfl)
theorem dl_281 : decode code 281 = .ok (.iconst 1, 1) := mlok_1 (281, .iconst 1, 1) (List.mem_of_getElem? (i := 49) rfl)
theorem dl_282 : decode code 282 = .ok (.iadd, 1) := mlok_2 (282, .iadd, 1) (List.mem_of_getElem? (i := 0) rfl)
theorem dl_283 : decode code 283 = .ok (.iaload, 1) := mlok_2 (283, .iaload, 1) (List.mem_of_getElem? (i := 1) rfl)
theorem dl_284 : decode code 284 = .ok (.aload_n 0, 1) := mlok_2 (284, .aload_n 0, 1) (List.mem_of_getElem? (i := 2) rfl)
theorem dl_285 : decode code 285 = .ok (.iload_n 3, 1) := mlok_2 (285, .iload_n 3, 1) (List.mem_of_getElem? (i := 3) rfl)
theorem dl_286 : decode code 286 = .ok (.iconst 2, 1) := mlok_2 (286, .iconst 2, 1) (List.mem_of_getElem? (i := 4) rfl)
theorem dl_287 : decode code 287 = .ok (.iadd, 1) := mlok_2 (287, .iadd, 1) (List.mem_of_getElem? (i := 5) rfl)
theorem dl_288 : decode code 288 = .ok (.iaload, 1) := mlok_2 (288, .iaload, 1) (List.mem_of_getElem? (i := 6) rfl)
theorem dl_289 : decode code 289 = .ok (.invokevirtual 23, 3) := mlok_2 (289, .invokevirtual 23, 3) (List.mem_of_getElem? (i := 7) rfl)
theorem dl_292 : decode code 292 = .ok (.aload_n 2, 1) := mlok_2 (292, .aload_n 2, 1) (List.mem_of_getElem? (i := 8) rfl)
theorem dl_293 : decode code 293 = .ok (.aload_n 0, 1) := mlok_2 (293, .aload_n 0, 1) (List.mem_of_getElem? (i := 9) rfl)
theorem dl_294 : decode code 294 = .ok (.iload_n 3, 1) := mlok_2 (294, .iload_n 3, 1) (List.mem_of_getElem? (i := 10) rfl)
theorem dl_295 : decode code 295 = .ok (.iconst 1, 1) := mlok_2 (295, .iconst 1, 1) (List.mem_of_getElem? (i := 11) rfl)
theorem dl_296 : decode code 296 = .ok (.iadd, 1) := mlok_2 (296, .iadd, 1) (List.mem_of_getElem? (i := 12) rfl)
theorem dl_297 : decode code 297 = .ok (.iaload, 1) := mlok_2 (297, .iaload, 1) (List.mem_of_getElem? (i := 13) rfl)
theorem dl_298 : decode code 298 = .ok (.aload_n 0, 1) := mlok_2 (298, .aload_n 0, 1) (List.mem_of_getElem? (i := 14) rfl)
theorem dl_299 : decode code 299 = .ok (.iload_n 3, 1) := mlok_2 (299, .iload_n 3, 1) (List.mem_of_getElem? (i := 15) rfl)
theorem dl_300 : decode code 300 = .ok (.iconst 2, 1) := mlok_2 (300, .iconst 2, 1) (List.mem_of_getElem? (i := 16) rfl)
theorem dl_301 : decode code 301 = .ok (.iadd, 1) := mlok_2 (301, .iadd, 1) (List.mem_of_getElem? (i := 17) rfl)
theorem dl_302 : decode code 302 = .ok (.iaload, 1) := mlok_2 (302, .iaload, 1) (List.mem_of_getElem? (i := 18) rfl)
theorem dl_303 : decode code 303 = .ok (.invokevirtual 27, 3) := mlok_2 (303, .invokevirtual 27, 3) (List.mem_of_getElem? (i := 19) rfl)
theorem dl_306 : decode code 306 = .ok (.if_icmp .eq 1610, 3) := mlok_2 (306, .if_icmp .eq 1610, 3) (List.mem_of_getElem? (i := 20) rfl)
theorem dl_309 : decode code 309 = .ok (.iconst 0, 1) := mlok_2 (309, .iconst 0, 1) (List.mem_of_getElem? (i := 21) rfl)
theorem dl_310 : decode code 310 = .ok (.ireturn, 1) := mlok_2 (310, .ireturn, 1) (List.mem_of_getElem? (i := 22) rfl)
theorem dl_311 : decode code 311 = .ok (.aload_n 1, 1) := mlok_2 (311, .aload_n 1, 1) (List.mem_of_getElem? (i := 23) rfl)
theorem dl_312 : decode code 312 = .ok (.aload_n 0, 1) := mlok_2 (312, .aload_n 0, 1) (List.mem_of_getElem? (i := 24) rfl)
theorem dl_313 : decode code 313 = .ok (.iload_n 3, 1) := mlok_2 (313, .iload_n 3, 1) (List.mem_of_getElem? (i := 25) rfl)
theorem dl_314 : decode code 314 = .ok (.iconst 1, 1) := mlok_2 (314, .iconst 1, 1) (List.mem_of_getElem? (i := 26) rfl)
theorem dl_315 : decode code 315 = .ok (.iadd, 1) := mlok_2 (315, .iadd, 1) (List.mem_of_getElem? (i := 27) rfl)
theorem dl_316 : decode code 316 = .ok (.iaload, 1) := mlok_2 (316, .iaload, 1) (List.mem_of_getElem? (i := 28) rfl)
theorem dl_317 : decode code 317 = .ok (.invokevirtual 28, 3) := mlok_2 (317, .invokevirtual 28, 3) (List.mem_of_getElem? (i := 29) rfl)
theorem dl_320 : decode code 320 = .ok (.aload_n 2, 1) := mlok_2 (320, .aload_n 2, 1) (List.mem_of_getElem? (i := 30) rfl)
theorem dl_321 : decode code 321 = .ok (.aload_n 0, 1) := mlok_2 (321, .aload_n 0, 1) (List.mem_of_getElem? (i := 31) rfl)
theorem dl_322 : decode code 322 = .ok (.iload_n 3, 1) := mlok_2 (322, .iload_n 3, 1) (List.mem_of_getElem? (i := 32) rfl)
theorem dl_323 : decode code 323 = .ok (.iconst 1, 1) := mlok_2 (323, .iconst 1, 1) (List.mem_of_getElem? (i := 33) rfl)
theorem dl_324 : decode code 324 = .ok (.iadd, 1) := mlok_2 (324, .iadd, 1) (List.mem_of_getElem? (i := 34) rfl)
theorem dl_325 : decode code 325 = .ok (.iaload, 1) := mlok_2 (325, .iaload, 1) (List.mem_of_getElem? (i := 35) rfl)
theorem dl_326 : decode code 326 = .ok (.invokevirtual 31, 3) := mlok_2 (326, .invokevirtual 31, 3) (List.mem_of_getElem? (i := 36) rfl)
theorem dl_329 : decode code 329 = .ok (.if_icmp .eq 1587, 3) := mlok_2 (329, .if_icmp .eq 1587, 3) (List.mem_of_getElem? (i := 37) rfl)
theorem dl_332 : decode code 332 = .ok (.iconst 0, 1) := mlok_2 (332, .iconst 0, 1) (List.mem_of_getElem? (i := 38) rfl)
theorem dl_333 : decode code 333 = .ok (.ireturn, 1) := mlok_2 (333, .ireturn, 1) (List.mem_of_getElem? (i := 39) rfl)
theorem dl_334 : decode code 334 = .ok (.aload_n 1, 1) := mlok_2 (334, .aload_n 1, 1) (List.mem_of_getElem? (i := 40) rfl)
theorem dl_335 : decode code 335 = .ok (.aload_n 0, 1) := mlok_2 (335, .aload_n 0, 1) (List.mem_of_getElem? (i := 41) rfl)
theorem dl_336 : decode code 336 = .ok (.iload_n 3, 1) := mlok_2 (336, .iload_n 3, 1) (List.mem_of_getElem? (i := 42) rfl)
theorem dl_337 : decode code 337 = .ok (.iconst 1, 1) := mlok_2 (337, .iconst 1, 1) (List.mem_of_getElem? (i := 43) rfl)
theorem dl_338 : decode code 338 = .ok (.iadd, 1) := mlok_2 (338, .iadd, 1) (List.mem_of_getElem? (i := 44) rfl)
theorem dl_339 : decode code 339 = .ok (.iaload, 1) := mlok_2 (339, .iaload, 1) (List.mem_of_getElem? (i := 45) rfl)
theorem dl_340 : decode code 340 = .ok (.aload_n 0, 1) := mlok_2 (340, .aload_n 0, 1) (List.mem_of_getElem? (i := 46) rfl)
theorem dl_341 : decode code 341 = .ok (.iload_n 3, 1) := mlok_2 (341, .iload_n 3, 1) (List.mem_of_getElem? (i := 47) rfl)
theorem dl_342 : decode code 342 = .ok (.iconst 2, 1) := mlok_2 (342, .iconst 2, 1) (List.mem_of_getElem? (i := 48) rfl)
theorem dl_343 : decode code 343 = .ok (.iadd, 1) := mlok_2 (343, .iadd, 1) (List.mem_of_getElem? (i := 49) rfl)
theorem dl_344 : decode code 344 = .ok (.iaload, 1) := mlok_3 (344, .iaload, 1) (List.mem_of_getElem? (i := 0) rfl)
theorem dl_345 : decode code 345 = .ok (.invokevirtual 32, 3) := mlok_3 (345, .invokevirtual 32, 3) (List.mem_of_getElem? (i := 1) rfl)
theorem dl_348 : decode code 348 = .ok (.aload_n 2, 1) := mlok_3 (348, .aload_n 2, 1) (List.mem_of_getElem? (i := 2) rfl)
theorem dl_349 : decode code 349 = .ok (.aload_n 0, 1) := mlok_3 (349, .aload_n 0, 1) (List.mem_of_getElem? (i := 3) rfl)
theorem dl_350 : decode code 350 = .ok (.iload_n 3, 1) := mlok_3 (350, .iload_n 3, 1) (List.mem_of_getElem? (i := 4) rfl)
theorem dl_351 : decode code 351 = .ok (.iconst 1, 1) := mlok_3 (351, .iconst 1, 1) (List.mem_of_getElem? (i := 5) rfl)
theorem dl_352 : decode code 352 = .ok (.iadd, 1) := mlok_3 (352, .iadd, 1) (List.mem_of_getElem? (i := 6) rfl)
theorem dl_353 : decode code 353 = .ok (.iaload, 1) := mlok_3 (353, .iaload, 1) (List.mem_of_getElem? (i := 7) rfl)
theorem dl_354 : decode code 354 = .ok (.aload_n 0, 1) := mlok_3 (354, .aload_n 0, 1) (List.mem_of_getElem? (i := 8) rfl)
theorem dl_355 : decode code 355 = .ok (.iload_n 3, 1) := mlok_3 (355, .iload_n 3, 1) (List.mem_of_getElem? (i := 9) rfl)
theorem dl_356 : decode code 356 = .ok (.iconst 2, 1) := mlok_3 (356, .iconst 2, 1) (List.mem_of_getElem? (i := 10) rfl)
theorem dl_357 : decode code 357 = .ok (.iadd, 1) := mlok_3 (357, .iadd, 1) (List.mem_of_getElem? (i := 11) rfl)
theorem dl_358 : decode code 358 = .ok (.iaload, 1) := mlok_3 (358, .iaload, 1) (List.mem_of_getElem? (i := 12) rfl)
theorem dl_359 : decode code 359 = .ok (.invokevirtual 35, 3) := mlok_3 (359, .invokevirtual 35, 3) (List.mem_of_getElem? (i := 13) rfl)
theorem dl_362 : decode code 362 = .ok (.if_icmp .eq 1554, 3) := mlok_3 (362, .if_icmp .eq 1554, 3) (List.mem_of_getElem? (i := 14) rfl)
theorem dl_365 : decode code 365 = .ok (.iconst 0, 1) := mlok_3 (365, .iconst 0, 1) (List.mem_of_getElem? (i := 15) rfl)
theorem dl_366 : decode code 366 = .ok (.ireturn, 1) := mlok_3 (366, .ireturn, 1) (List.mem_of_getElem? (i := 16) rfl)
theorem dl_367 : decode code 367 = .ok (.aload_n 1, 1) := mlok_3 (367, .aload_n 1, 1) (List.mem_of_getElem? (i := 17) rfl)
theorem dl_368 : decode code 368 = .ok (.aload_n 0, 1) := mlok_3 (368, .aload_n 0, 1) (List.mem_of_getElem? (i := 18) rfl)
theorem dl_369 : decode code 369 = .ok (.iload_n 3, 1) := mlok_3 (369, .iload_n 3, 1) (List.mem_of_getElem? (i := 19) rfl)
theorem dl_370 : decode code 370 = .ok (.iconst 1, 1) := mlok_3 (370, .iconst 1, 1) (List.mem_of_getElem? (i := 20) rfl)
theorem dl_371 : decode code 371 = .ok (.iadd, 1) := mlok_3 (371, .iadd, 1) (List.mem_of_getElem? (i := 21) rfl)
theorem dl_372 : decode code 372 = .ok (.iaload, 1) := mlok_3 (372, .iaload, 1) (List.mem_of_getElem? (i := 22) rfl)
theorem dl_373 : decode code 373 = .ok (.aload_n 0, 1) := mlok_3 (373, .aload_n 0, 1) (List.mem_of_getElem? (i := 23) rfl)
theorem dl_374 : decode code 374 = .ok (.iload_n 3, 1) := mlok_3 (374, .iload_n 3, 1) (List.mem_of_getElem? (i := 24) rfl)
theorem dl_375 : decode code 375 = .ok (.iconst 2, 1) := mlok_3 (375, .iconst 2, 1) (List.mem_of_getElem? (i := 25) rfl)
theorem dl_376 : decode code 376 = .ok (.iadd, 1) := mlok_3 (376, .iadd, 1) (List.mem_of_getElem? (i := 26) rfl)
theorem dl_377 : decode code 377 = .ok (.iaload, 1) := mlok_3 (377, .iaload, 1) (List.mem_of_getElem? (i := 27) rfl)
theorem dl_378 : decode code 378 = .ok (.aload_n 0, 1) := mlok_3 (378, .aload_n 0, 1) (List.mem_of_getElem? (i := 28) rfl)
theorem dl_379 : decode code 379 = .ok (.iload_n 3, 1) := mlok_3 (379, .iload_n 3, 1) (List.mem_of_getElem? (i := 29) rfl)
theorem dl_380 : decode code 380 = .ok (.iconst 3, 1) := mlok_3 (380, .iconst 3, 1) (List.mem_of_getElem? (i := 30) rfl)
theorem dl_381 : decode code 381 = .ok (.iadd, 1) := mlok_3 (381, .iadd, 1) (List.mem_of_getElem? (i := 31) rfl)
theorem dl_382 : decode code 382 = .ok (.iaload, 1) := mlok_3 (382, .iaload, 1) (List.mem_of_getElem? (i := 32) rfl)
theorem dl_383 : decode code 383 = .ok (.invokevirtual 36, 3) := mlok_3 (383, .invokevirtual 36, 3) (List.mem_of_getElem? (i := 33) rfl)
theorem dl_386 : decode code 386 = .ok (.aload_n 2, 1) := mlok_3 (386, .aload_n 2, 1) (List.mem_of_getElem? (i := 34) rfl)
theorem dl_387 : decode code 387 = .ok (.aload_n 0, 1) := mlok_3 (387, .aload_n 0, 1) (List.mem_of_getElem? (i := 35) rfl)
theorem dl_388 : decode code 388 = .ok (.iload_n 3, 1) := mlok_3 (388, .iload_n 3, 1) (List.mem_of_getElem? (i := 36) rfl)
theorem dl_389 : decode code 389 = .ok (.iconst 1, 1) := mlok_3 (389, .iconst 1, 1) (List.mem_of_getElem? (i := 37) rfl)
theorem dl_390 : decode code 390 = .ok (.iadd, 1) := mlok_3 (390, .iadd, 1) (List.mem_of_getElem? (i := 38) rfl)
theorem dl_391 : decode code 391 = .ok (.iaload, 1) := mlok_3 (391, .iaload, 1) (List.mem_of_getElem? (i := 39) rfl)
theorem dl_392 : decode code 392 = .ok (.aload_n 0, 1) := mlok_3 (392, .aload_n 0, 1) (List.mem_of_getElem? (i := 40) rfl)
theorem dl_393 : decode code 393 = .ok (.iload_n 3, 1) := mlok_3 (393, .iload_n 3, 1) (List.mem_of_getElem? (i := 41) rfl)
theorem dl_394 : decode code 394 = .ok (.iconst 2, 1) := mlok_3 (394, .iconst 2, 1) (List.mem_of_getElem? (i := 42) rfl)
theorem dl_395 : decode code 395 = .ok (.iadd, 1) := mlok_3 (395, .iadd, 1) (List.mem_of_getElem? (i := 43) rfl)
theorem dl_396 : decode code 396 = .ok (.iaload, 1) := mlok_3 (396, .iaload, 1) (List.mem_of_getElem? (i := 44) rfl)
theorem dl_397 : decode code 397 = .ok (.aload_n 0, 1) := mlok_3 (397, .aload_n 0, 1) (List.mem_of_getElem? (i := 45) rfl)
theorem dl_398 : decode code 398 = .ok (.iload_n 3, 1) := mlok_3 (398, .iload_n 3, 1) (List.mem_of_getElem? (i := 46) rfl)
theorem dl_399 : decode code 399 = .ok (.iconst 3, 1) := mlok_3 (399, .iconst 3, 1) (List.mem_of_getElem? (i := 47) rfl)
theorem dl_400 : decode code 400 = .ok (.iadd, 1) := mlok_3 (400, .iadd, 1) (List.mem_of_getElem? (i := 48) rfl)
theorem dl_401 : decode code 401 = .ok (.iaload, 1) := mlok_3 (401, .iaload, 1) (List.mem_of_getElem? (i := 49) rfl)
theorem dl_402 : decode code 402 = .ok (.invokevirtual 40, 3) := mlok_4 (402, .invokevirtual 40, 3) (List.mem_of_getElem? (i := 0) rfl)
theorem dl_405 : decode code 405 = .ok (.if_icmp .eq 1511, 3) := mlok_4 (405, .if_icmp .eq 1511, 3) (List.mem_of_getElem? (i := 1) rfl)
theorem dl_408 : decode code 408 = .ok (.iconst 0, 1) := mlok_4 (408, .iconst 0, 1) (List.mem_of_getElem? (i := 2) rfl)
theorem dl_409 : decode code 409 = .ok (.ireturn, 1) := mlok_4 (409, .ireturn, 1) (List.mem_of_getElem? (i := 3) rfl)
theorem dl_410 : decode code 410 = .ok (.aload_n 1, 1) := mlok_4 (410, .aload_n 1, 1) (List.mem_of_getElem? (i := 4) rfl)
theorem dl_411 : decode code 411 = .ok (.aload_n 0, 1) := mlok_4 (411, .aload_n 0, 1) (List.mem_of_getElem? (i := 5) rfl)
theorem dl_412 : decode code 412 = .ok (.iload_n 3, 1) := mlok_4 (412, .iload_n 3, 1) (List.mem_of_getElem? (i := 6) rfl)
theorem dl_413 : decode code 413 = .ok (.iconst 1, 1) := mlok_4 (413, .iconst 1, 1) (List.mem_of_getElem? (i := 7) rfl)
theorem dl_414 : decode code 414 = .ok (.iadd, 1) := mlok_4 (414, .iadd, 1) (List.mem_of_getElem? (i := 8) rfl)
theorem dl_415 : decode code 415 = .ok (.iaload, 1) := mlok_4 (415, .iaload, 1) (List.mem_of_getElem? (i := 9) rfl)
theorem dl_416 : decode code 416 = .ok (.aload_n 0, 1) := mlok_4 (416, .aload_n 0, 1) (List.mem_of_getElem? (i := 10) rfl)
theorem dl_417 : decode code 417 = .ok (.iload_n 3, 1) := mlok_4 (417, .iload_n 3, 1) (List.mem_of_getElem? (i := 11) rfl)
theorem dl_418 : decode code 418 = .ok (.iconst 2, 1) := mlok_4 (418, .iconst 2, 1) (List.mem_of_getElem? (i := 12) rfl)
theorem dl_419 : decode code 419 = .ok (.iadd, 1) := mlok_4 (419, .iadd, 1) (List.mem_of_getElem? (i := 13) rfl)
theorem dl_420 : decode code 420 = .ok (.iaload, 1) := mlok_4 (420, .iaload, 1) (List.mem_of_getElem? (i := 14) rfl)
theorem dl_421 : decode code 421 = .ok (.invokevirtual 41, 3) := mlok_4 (421, .invokevirtual 41, 3) (List.mem_of_getElem? (i := 15) rfl)
theorem dl_424 : decode code 424 = .ok (.aload_n 2, 1) := mlok_4 (424, .aload_n 2, 1) (List.mem_of_getElem? (i := 16) rfl)
theorem dl_425 : decode code 425 = .ok (.aload_n 0, 1) := mlok_4 (425, .aload_n 0, 1) (List.mem_of_getElem? (i := 17) rfl)
theorem dl_426 : decode code 426 = .ok (.iload_n 3, 1) := mlok_4 (426, .iload_n 3, 1) (List.mem_of_getElem? (i := 18) rfl)
theorem dl_427 : decode code 427 = .ok (.iconst 1, 1) := mlok_4 (427, .iconst 1, 1) (List.mem_of_getElem? (i := 19) rfl)
theorem dl_428 : decode code 428 = .ok (.iadd, 1) := mlok_4 (428, .iadd, 1) (List.mem_of_getElem? (i := 20) rfl)
theorem dl_429 : decode code 429 = .ok (.iaload, 1) := mlok_4 (429, .iaload, 1) (List.mem_of_getElem? (i := 21) rfl)
theorem dl_430 : decode code 430 = .ok (.aload_n 0, 1) := mlok_4 (430, .aload_n 0, 1) (List.mem_of_getElem? (i := 22) rfl)
theorem dl_431 : decode code 431 = .ok (.iload_n 3, 1) := mlok_4 (431, .iload_n 3, 1) (List.mem_of_getElem? (i := 23) rfl)
theorem dl_432 : decode code 432 = .ok (.iconst 2, 1) := mlok_4 (432, .iconst 2, 1) (List.mem_of_getElem? (i := 24) rfl)
theorem dl_433 : decode code 433 = .ok (.iadd, 1) := mlok_4 (433, .iadd, 1) (List.mem_of_getElem? (i := 25) rfl)
theorem dl_434 : decode code 434 = .ok (.iaload, 1) := mlok_4 (434, .iaload, 1) (List.mem_of_getElem? (i := 26) rfl)
theorem dl_435 : decode code 435 = .ok (.invokevirtual 44, 3) := mlok_4 (435, .invokevirtual 44, 3) (List.mem_of_getElem? (i := 27) rfl)
theorem dl_438 : decode code 438 = .ok (.if_icmp .eq 1478, 3) := mlok_4 (438, .if_icmp .eq 1478, 3) (List.mem_of_getElem? (i := 28) rfl)
theorem dl_441 : decode code 441 = .ok (.iconst 0, 1) := mlok_4 (441, .iconst 0, 1) (List.mem_of_getElem? (i := 29) rfl)
theorem dl_442 : decode code 442 = .ok (.ireturn, 1) := mlok_4 (442, .ireturn, 1) (List.mem_of_getElem? (i := 30) rfl)
theorem dl_443 : decode code 443 = .ok (.aload_n 1, 1) := mlok_4 (443, .aload_n 1, 1) (List.mem_of_getElem? (i := 31) rfl)
theorem dl_444 : decode code 444 = .ok (.aload_n 0, 1) := mlok_4 (444, .aload_n 0, 1) (List.mem_of_getElem? (i := 32) rfl)
theorem dl_445 : decode code 445 = .ok (.iload_n 3, 1) := mlok_4 (445, .iload_n 3, 1) (List.mem_of_getElem? (i := 33) rfl)
theorem dl_446 : decode code 446 = .ok (.iconst 1, 1) := mlok_4 (446, .iconst 1, 1) (List.mem_of_getElem? (i := 34) rfl)
theorem dl_447 : decode code 447 = .ok (.iadd, 1) := mlok_4 (447, .iadd, 1) (List.mem_of_getElem? (i := 35) rfl)
theorem dl_448 : decode code 448 = .ok (.iaload, 1) := mlok_4 (448, .iaload, 1) (List.mem_of_getElem? (i := 36) rfl)
theorem dl_449 : decode code 449 = .ok (.aload_n 0, 1) := mlok_4 (449, .aload_n 0, 1) (List.mem_of_getElem? (i := 37) rfl)
theorem dl_450 : decode code 450 = .ok (.iload_n 3, 1) := mlok_4 (450, .iload_n 3, 1) (List.mem_of_getElem? (i := 38) rfl)
theorem dl_451 : decode code 451 = .ok (.iconst 2, 1) := mlok_4 (451, .iconst 2, 1) (List.mem_of_getElem? (i := 39) rfl)
theorem dl_452 : decode code 452 = .ok (.iadd, 1) := mlok_4 (452, .iadd, 1) (List.mem_of_getElem? (i := 40) rfl)
theorem dl_453 : decode code 453 = .ok (.iaload, 1) := mlok_4 (453, .iaload, 1) (List.mem_of_getElem? (i := 41) rfl)
theorem dl_454 : decode code 454 = .ok (.invokevirtual 45, 3) := mlok_4 (454, .invokevirtual 45, 3) (List.mem_of_getElem? (i := 42) rfl)
theorem dl_457 : decode code 457 = .ok (.aload_n 2, 1) := mlok_4 (457, .aload_n 2, 1) (List.mem_of_getElem? (i := 43) rfl)
theorem dl_458 : decode code 458 = .ok (.aload_n 0, 1) := mlok_4 (458, .aload_n 0, 1) (List.mem_of_getElem? (i := 44) rfl)
theorem dl_459 : decode code 459 = .ok (.iload_n 3, 1) := mlok_4 (459, .iload_n 3, 1) (List.mem_of_getElem? (i := 45) rfl)
theorem dl_460 : decode code 460 = .ok (.iconst 1, 1) := mlok_4 (460, .iconst 1, 1) (List.mem_of_getElem? (i := 46) rfl)
theorem dl_461 : decode code 461 = .ok (.iadd, 1) := mlok_4 (461, .iadd, 1) (List.mem_of_getElem? (i := 47) rfl)
theorem dl_462 : decode code 462 = .ok (.iaload, 1) := mlok_4 (462, .iaload, 1) (List.mem_of_getElem? (i := 48) rfl)
theorem dl_463 : decode code 463 = .ok (.aload_n 0, 1) := mlok_4 (463, .aload_n 0, 1) (List.mem_of_getElem? (i := 49) rfl)
theorem dl_464 : decode code 464 = .ok (.iload_n 3, 1) := mlok_5 (464, .iload_n 3, 1) (List.mem_of_getElem? (i := 0) rfl)
theorem dl_465 : decode code 465 = .ok (.iconst 2, 1) := mlok_5 (465, .iconst 2, 1) (List.mem_of_getElem? (i := 1) rfl)
theorem dl_466 : decode code 466 = .ok (.iadd, 1) := mlok_5 (466, .iadd, 1) (List.mem_of_getElem? (i := 2) rfl)
theorem dl_467 : decode code 467 = .ok (.iaload, 1) := mlok_5 (467, .iaload, 1) (List.mem_of_getElem? (i := 3) rfl)
theorem dl_468 : decode code 468 = .ok (.invokevirtual 48, 3) := mlok_5 (468, .invokevirtual 48, 3) (List.mem_of_getElem? (i := 4) rfl)
theorem dl_471 : decode code 471 = .ok (.if_icmp .eq 1445, 3) := mlok_5 (471, .if_icmp .eq 1445, 3) (List.mem_of_getElem? (i := 5) rfl)
theorem dl_474 : decode code 474 = .ok (.iconst 0, 1) := mlok_5 (474, .iconst 0, 1) (List.mem_of_getElem? (i := 6) rfl)
theorem dl_475 : decode code 475 = .ok (.ireturn, 1) := mlok_5 (475, .ireturn, 1) (List.mem_of_getElem? (i := 7) rfl)
theorem dl_476 : decode code 476 = .ok (.aload_n 1, 1) := mlok_5 (476, .aload_n 1, 1) (List.mem_of_getElem? (i := 8) rfl)
theorem dl_477 : decode code 477 = .ok (.aload_n 0, 1) := mlok_5 (477, .aload_n 0, 1) (List.mem_of_getElem? (i := 9) rfl)
theorem dl_478 : decode code 478 = .ok (.iload_n 3, 1) := mlok_5 (478, .iload_n 3, 1) (List.mem_of_getElem? (i := 10) rfl)
theorem dl_479 : decode code 479 = .ok (.iconst 1, 1) := mlok_5 (479, .iconst 1, 1) (List.mem_of_getElem? (i := 11) rfl)
theorem dl_480 : decode code 480 = .ok (.iadd, 1) := mlok_5 (480, .iadd, 1) (List.mem_of_getElem? (i := 12) rfl)
theorem dl_481 : decode code 481 = .ok (.iaload, 1) := mlok_5 (481, .iaload, 1) (List.mem_of_getElem? (i := 13) rfl)
theorem dl_482 : decode code 482 = .ok (.aload_n 0, 1) := mlok_5 (482, .aload_n 0, 1) (List.mem_of_getElem? (i := 14) rfl)
theorem dl_483 : decode code 483 = .ok (.iload_n 3, 1) := mlok_5 (483, .iload_n 3, 1) (List.mem_of_getElem? (i := 15) rfl)
theorem dl_484 : decode code 484 = .ok (.iconst 2, 1) := mlok_5 (484, .iconst 2, 1) (List.mem_of_getElem? (i := 16) rfl)
theorem dl_485 : decode code 485 = .ok (.iadd, 1) := mlok_5 (485, .iadd, 1) (List.mem_of_getElem? (i := 17) rfl)
theorem dl_486 : decode code 486 = .ok (.iaload, 1) := mlok_5 (486, .iaload, 1) (List.mem_of_getElem? (i := 18) rfl)
theorem dl_487 : decode code 487 = .ok (.aload_n 0, 1) := mlok_5 (487, .aload_n 0, 1) (List.mem_of_getElem? (i := 19) rfl)
theorem dl_488 : decode code 488 = .ok (.iload_n 3, 1) := mlok_5 (488, .iload_n 3, 1) (List.mem_of_getElem? (i := 20) rfl)
theorem dl_489 : decode code 489 = .ok (.iconst 3, 1) := mlok_5 (489, .iconst 3, 1) (List.mem_of_getElem? (i := 21) rfl)
theorem dl_490 : decode code 490 = .ok (.iadd, 1) := mlok_5 (490, .iadd, 1) (List.mem_of_getElem? (i := 22) rfl)
theorem dl_491 : decode code 491 = .ok (.iaload, 1) := mlok_5 (491, .iaload, 1) (List.mem_of_getElem? (i := 23) rfl)
theorem dl_492 : decode code 492 = .ok (.invokevirtual 49, 3) := mlok_5 (492, .invokevirtual 49, 3) (List.mem_of_getElem? (i := 24) rfl)
theorem dl_495 : decode code 495 = .ok (.aload_n 2, 1) := mlok_5 (495, .aload_n 2, 1) (List.mem_of_getElem? (i := 25) rfl)
theorem dl_496 : decode code 496 = .ok (.aload_n 0, 1) := mlok_5 (496, .aload_n 0, 1) (List.mem_of_getElem? (i := 26) rfl)
theorem dl_497 : decode code 497 = .ok (.iload_n 3, 1) := mlok_5 (497, .iload_n 3, 1) (List.mem_of_getElem? (i := 27) rfl)
theorem dl_498 : decode code 498 = .ok (.iconst 1, 1) := mlok_5 (498, .iconst 1, 1) (List.mem_of_getElem? (i := 28) rfl)
theorem dl_499 : decode code 499 = .ok (.iadd, 1) := mlok_5 (499, .iadd, 1) (List.mem_of_getElem? (i := 29) rfl)
theorem dl_500 : decode code 500 = .ok (.iaload, 1) := mlok_5 (500, .iaload, 1) (List.mem_of_getElem? (i := 30) rfl)
theorem dl_501 : decode code 501 = .ok (.aload_n 0, 1) := mlok_5 (501, .aload_n 0, 1) (List.mem_of_getElem? (i := 31) rfl)
theorem dl_502 : decode code 502 = .ok (.iload_n 3, 1) := mlok_5 (502, .iload_n 3, 1) (List.mem_of_getElem? (i := 32) rfl)
theorem dl_503 : decode code 503 = .ok (.iconst 2, 1) := mlok_5 (503, .iconst 2, 1) (List.mem_of_getElem? (i := 33) rfl)
theorem dl_504 : decode code 504 = .ok (.iadd, 1) := mlok_5 (504, .iadd, 1) (List.mem_of_getElem? (i := 34) rfl)
theorem dl_505 : decode code 505 = .ok (.iaload, 1) := mlok_5 (505, .iaload, 1) (List.mem_of_getElem? (i := 35) rfl)
theorem dl_506 : decode code 506 = .ok (.aload_n 0, 1) := mlok_5 (506, .aload_n 0, 1) (List.mem_of_getElem? (i := 36) rfl)
theorem dl_507 : decode code 507 = .ok (.iload_n 3, 1) := mlok_5 (507, .iload_n 3, 1) (List.mem_of_getElem? (i := 37) rfl)
theorem dl_508 : decode code 508 = .ok (.iconst 3, 1) := mlok_5 (508, .iconst 3, 1) (List.mem_of_getElem? (i := 38) rfl)
theorem dl_509 : decode code 509 = .ok (.iadd, 1) := mlok_5 (509, .iadd, 1) (List.mem_of_getElem? (i := 39) rfl)
theorem dl_510 : decode code 510 = .ok (.iaload, 1) := mlok_5 (510, .iaload, 1) (List.mem_of_getElem? (i := 40) rfl)
theorem dl_511 : decode code 511 = .ok (.invokevirtual 52, 3) := mlok_5 (511, .invokevirtual 52, 3) (List.mem_of_getElem? (i := 41) rfl)
theorem dl_514 : decode code 514 = .ok (.if_icmp .eq 1402, 3) := mlok_5 (514, .if_icmp .eq 1402, 3) (List.mem_of_getElem? (i := 42) rfl)
theorem dl_517 : decode code 517 = .ok (.iconst 0, 1) := mlok_5 (517, .iconst 0, 1) (List.mem_of_getElem? (i := 43) rfl)
theorem dl_518 : decode code 518 = .ok (.ireturn, 1) := mlok_5 (518, .ireturn, 1) (List.mem_of_getElem? (i := 44) rfl)
theorem dl_519 : decode code 519 = .ok (.aload_n 1, 1) := mlok_5 (519, .aload_n 1, 1) (List.mem_of_getElem? (i := 45) rfl)
theorem dl_520 : decode code 520 = .ok (.aload_n 0, 1) := mlok_5 (520, .aload_n 0, 1) (List.mem_of_getElem? (i := 46) rfl)
theorem dl_521 : decode code 521 = .ok (.iload_n 3, 1) := mlok_5 (521, .iload_n 3, 1) (List.mem_of_getElem? (i := 47) rfl)
theorem dl_522 : decode code 522 = .ok (.iconst 1, 1) := mlok_5 (522, .iconst 1, 1) (List.mem_of_getElem? (i := 48) rfl)
theorem dl_523 : decode code 523 = .ok (.iadd, 1) := mlok_5 (523, .iadd, 1) (List.mem_of_getElem? (i := 49) rfl)
theorem dl_524 : decode code 524 = .ok (.iaload, 1) := mlok_6 (524, .iaload, 1) (List.mem_of_getElem? (i := 0) rfl)
theorem dl_525 : decode code 525 = .ok (.aload_n 0, 1) := mlok_6 (525, .aload_n 0, 1) (List.mem_of_getElem? (i := 1) rfl)
theorem dl_526 : decode code 526 = .ok (.iload_n 3, 1) := mlok_6 (526, .iload_n 3, 1) (List.mem_of_getElem? (i := 2) rfl)
theorem dl_527 : decode code 527 = .ok (.iconst 2, 1) := mlok_6 (527, .iconst 2, 1) (List.mem_of_getElem? (i := 3) rfl)
theorem dl_528 : decode code 528 = .ok (.iadd, 1) := mlok_6 (528, .iadd, 1) (List.mem_of_getElem? (i := 4) rfl)
theorem dl_529 : decode code 529 = .ok (.iaload, 1) := mlok_6 (529, .iaload, 1) (List.mem_of_getElem? (i := 5) rfl)
theorem dl_530 : decode code 530 = .ok (.aload_n 0, 1) := mlok_6 (530, .aload_n 0, 1) (List.mem_of_getElem? (i := 6) rfl)
theorem dl_531 : decode code 531 = .ok (.iload_n 3, 1) := mlok_6 (531, .iload_n 3, 1) (List.mem_of_getElem? (i := 7) rfl)
theorem dl_532 : decode code 532 = .ok (.iconst 3, 1) := mlok_6 (532, .iconst 3, 1) (List.mem_of_getElem? (i := 8) rfl)
theorem dl_533 : decode code 533 = .ok (.iadd, 1) := mlok_6 (533, .iadd, 1) (List.mem_of_getElem? (i := 9) rfl)
theorem dl_534 : decode code 534 = .ok (.iaload, 1) := mlok_6 (534, .iaload, 1) (List.mem_of_getElem? (i := 10) rfl)
theorem dl_535 : decode code 535 = .ok (.invokevirtual 53, 3) := mlok_6 (535, .invokevirtual 53, 3) (List.mem_of_getElem? (i := 11) rfl)
theorem dl_538 : decode code 538 = .ok (.aload_n 2, 1) := mlok_6 (538, .aload_n 2, 1) (List.mem_of_getElem? (i := 12) rfl)
theorem dl_539 : decode code 539 = .ok (.aload_n 0, 1) := mlok_6 (539, .aload_n 0, 1) (List.mem_of_getElem? (i := 13) rfl)
theorem dl_540 : decode code 540 = .ok (.iload_n 3, 1) := mlok_6 (540, .iload_n 3, 1) (List.mem_of_getElem? (i := 14) rfl)
theorem dl_541 : decode code 541 = .ok (.iconst 1, 1) := mlok_6 (541, .iconst 1, 1) (List.mem_of_getElem? (i := 15) rfl)
theorem dl_542 : decode code 542 = .ok (.iadd, 1) := mlok_6 (542, .iadd, 1) (List.mem_of_getElem? (i := 16) rfl)
theorem dl_543 : decode code 543 = .ok (.iaload, 1) := mlok_6 (543, .iaload, 1) (List.mem_of_getElem? (i := 17) rfl)
theorem dl_544 : decode code 544 = .ok (.aload_n 0, 1) := mlok_6 (544, .aload_n 0, 1) (List.mem_of_getElem? (i := 18) rfl)
theorem dl_545 : decode code 545 = .ok (.iload_n 3, 1) := mlok_6 (545, .iload_n 3, 1) (List.mem_of_getElem? (i := 19) rfl)
theorem dl_546 : decode code 546 = .ok (.iconst 2, 1) := mlok_6 (546, .iconst 2, 1) (List.mem_of_getElem? (i := 20) rfl)
theorem dl_547 : decode code 547 = .ok (.iadd, 1) := mlok_6 (547, .iadd, 1) (List.mem_of_getElem? (i := 21) rfl)
theorem dl_548 : decode code 548 = .ok (.iaload, 1) := mlok_6 (548, .iaload, 1) (List.mem_of_getElem? (i := 22) rfl)
theorem dl_549 : decode code 549 = .ok (.aload_n 0, 1) := mlok_6 (549, .aload_n 0, 1) (List.mem_of_getElem? (i := 23) rfl)
theorem dl_550 : decode code 550 = .ok (.iload_n 3, 1) := mlok_6 (550, .iload_n 3, 1) (List.mem_of_getElem? (i := 24) rfl)
theorem dl_551 : decode code 551 = .ok (.iconst 3, 1) := mlok_6 (551, .iconst 3, 1) (List.mem_of_getElem? (i := 25) rfl)
theorem dl_552 : decode code 552 = .ok (.iadd, 1) := mlok_6 (552, .iadd, 1) (List.mem_of_getElem? (i := 26) rfl)
theorem dl_553 : decode code 553 = .ok (.iaload, 1) := mlok_6 (553, .iaload, 1) (List.mem_of_getElem? (i := 27) rfl)
theorem dl_554 : decode code 554 = .ok (.invokevirtual 56, 3) := mlok_6 (554, .invokevirtual 56, 3) (List.mem_of_getElem? (i := 28) rfl)
theorem dl_557 : decode code 557 = .ok (.if_icmp .eq 1359, 3) := mlok_6 (557, .if_icmp .eq 1359, 3) (List.mem_of_getElem? (i := 29) rfl)
theorem dl_560 : decode code 560 = .ok (.iconst 0, 1) := mlok_6 (560, .iconst 0, 1) (List.mem_of_getElem? (i := 30) rfl)
theorem dl_561 : decode code 561 = .ok (.ireturn, 1) := mlok_6 (561, .ireturn, 1) (List.mem_of_getElem? (i := 31) rfl)
theorem dl_562 : decode code 562 = .ok (.aload_n 1, 1) := mlok_6 (562, .aload_n 1, 1) (List.mem_of_getElem? (i := 32) rfl)
theorem dl_563 : decode code 563 = .ok (.aload_n 0, 1) := mlok_6 (563, .aload_n 0, 1) (List.mem_of_getElem? (i := 33) rfl)
theorem dl_564 : decode code 564 = .ok (.iload_n 3, 1) := mlok_6 (564, .iload_n 3, 1) (List.mem_of_getElem? (i := 34) rfl)
theorem dl_565 : decode code 565 = .ok (.iconst 1, 1) := mlok_6 (565, .iconst 1, 1) (List.mem_of_getElem? (i := 35) rfl)
theorem dl_566 : decode code 566 = .ok (.iadd, 1) := mlok_6 (566, .iadd, 1) (List.mem_of_getElem? (i := 36) rfl)
theorem dl_567 : decode code 567 = .ok (.iaload, 1) := mlok_6 (567, .iaload, 1) (List.mem_of_getElem? (i := 37) rfl)
theorem dl_568 : decode code 568 = .ok (.aload_n 0, 1) := mlok_6 (568, .aload_n 0, 1) (List.mem_of_getElem? (i := 38) rfl)
theorem dl_569 : decode code 569 = .ok (.iload_n 3, 1) := mlok_6 (569, .iload_n 3, 1) (List.mem_of_getElem? (i := 39) rfl)
theorem dl_570 : decode code 570 = .ok (.iconst 2, 1) := mlok_6 (570, .iconst 2, 1) (List.mem_of_getElem? (i := 40) rfl)
theorem dl_571 : decode code 571 = .ok (.iadd, 1) := mlok_6 (571, .iadd, 1) (List.mem_of_getElem? (i := 41) rfl)
theorem dl_572 : decode code 572 = .ok (.iaload, 1) := mlok_6 (572, .iaload, 1) (List.mem_of_getElem? (i := 42) rfl)
theorem dl_573 : decode code 573 = .ok (.aload_n 0, 1) := mlok_6 (573, .aload_n 0, 1) (List.mem_of_getElem? (i := 43) rfl)
theorem dl_574 : decode code 574 = .ok (.iload_n 3, 1) := mlok_6 (574, .iload_n 3, 1) (List.mem_of_getElem? (i := 44) rfl)
theorem dl_575 : decode code 575 = .ok (.iconst 3, 1) := mlok_6 (575, .iconst 3, 1) (List.mem_of_getElem? (i := 45) rfl)
theorem dl_576 : decode code 576 = .ok (.iadd, 1) := mlok_6 (576, .iadd, 1) (List.mem_of_getElem? (i := 46) rfl)
theorem dl_577 : decode code 577 = .ok (.iaload, 1) := mlok_6 (577, .iaload, 1) (List.mem_of_getElem? (i := 47) rfl)
theorem dl_578 : decode code 578 = .ok (.aload_n 0, 1) := mlok_6 (578, .aload_n 0, 1) (List.mem_of_getElem? (i := 48) rfl)
theorem dl_579 : decode code 579 = .ok (.iload_n 3, 1) := mlok_6 (579, .iload_n 3, 1) (List.mem_of_getElem? (i := 49) rfl)
theorem dl_580 : decode code 580 = .ok (.iconst 4, 1) := mlok_7 (580, .iconst 4, 1) (List.mem_of_getElem? (i := 0) rfl)
theorem dl_581 : decode code 581 = .ok (.iadd, 1) := mlok_7 (581, .iadd, 1) (List.mem_of_getElem? (i := 1) rfl)
theorem dl_582 : decode code 582 = .ok (.iaload, 1) := mlok_7 (582, .iaload, 1) (List.mem_of_getElem? (i := 2) rfl)
theorem dl_583 : decode code 583 = .ok (.aload_n 0, 1) := mlok_7 (583, .aload_n 0, 1) (List.mem_of_getElem? (i := 3) rfl)
theorem dl_584 : decode code 584 = .ok (.iload_n 3, 1) := mlok_7 (584, .iload_n 3, 1) (List.mem_of_getElem? (i := 4) rfl)
theorem dl_585 : decode code 585 = .ok (.iconst 5, 1) := mlok_7 (585, .iconst 5, 1) (List.mem_of_getElem? (i := 5) rfl)
theorem dl_586 : decode code 586 = .ok (.iadd, 1) := mlok_7 (586, .iadd, 1) (List.mem_of_getElem? (i := 6) rfl)
theorem dl_587 : decode code 587 = .ok (.iaload, 1) := mlok_7 (587, .iaload, 1) (List.mem_of_getElem? (i := 7) rfl)
theorem dl_588 : decode code 588 = .ok (.invokevirtual 57, 3) := mlok_7 (588, .invokevirtual 57, 3) (List.mem_of_getElem? (i := 8) rfl)
theorem dl_591 : decode code 591 = .ok (.aload_n 2, 1) := mlok_7 (591, .aload_n 2, 1) (List.mem_of_getElem? (i := 9) rfl)
theorem dl_592 : decode code 592 = .ok (.aload_n 0, 1) := mlok_7 (592, .aload_n 0, 1) (List.mem_of_getElem? (i := 10) rfl)
theorem dl_593 : decode code 593 = .ok (.iload_n 3, 1) := mlok_7 (593, .iload_n 3, 1) (List.mem_of_getElem? (i := 11) rfl)
theorem dl_594 : decode code 594 = .ok (.iconst 1, 1) := mlok_7 (594, .iconst 1, 1) (List.mem_of_getElem? (i := 12) rfl)
theorem dl_595 : decode code 595 = .ok (.iadd, 1) := mlok_7 (595, .iadd, 1) (List.mem_of_getElem? (i := 13) rfl)
theorem dl_596 : decode code 596 = .ok (.iaload, 1) := mlok_7 (596, .iaload, 1) (List.mem_of_getElem? (i := 14) rfl)
theorem dl_597 : decode code 597 = .ok (.aload_n 0, 1) := mlok_7 (597, .aload_n 0, 1) (List.mem_of_getElem? (i := 15) rfl)
theorem dl_598 : decode code 598 = .ok (.iload_n 3, 1) := mlok_7 (598, .iload_n 3, 1) (List.mem_of_getElem? (i := 16) rfl)
theorem dl_599 : decode code 599 = .ok (.iconst 2, 1) := mlok_7 (599, .iconst 2, 1) (List.mem_of_getElem? (i := 17) rfl)
theorem dl_600 : decode code 600 = .ok (.iadd, 1) := mlok_7 (600, .iadd, 1) (List.mem_of_getElem? (i := 18) rfl)
theorem dl_601 : decode code 601 = .ok (.iaload, 1) := mlok_7 (601, .iaload, 1) (List.mem_of_getElem? (i := 19) rfl)
theorem dl_602 : decode code 602 = .ok (.aload_n 0, 1) := mlok_7 (602, .aload_n 0, 1) (List.mem_of_getElem? (i := 20) rfl)
theorem dl_603 : decode code 603 = .ok (.iload_n 3, 1) := mlok_7 (603, .iload_n 3, 1) (List.mem_of_getElem? (i := 21) rfl)
theorem dl_604 : decode code 604 = .ok (.iconst 3, 1) := mlok_7 (604, .iconst 3, 1) (List.mem_of_getElem? (i := 22) rfl)
theorem dl_605 : decode code 605 = .ok (.iadd, 1) := mlok_7 (605, .iadd, 1) (List.mem_of_getElem? (i := 23) rfl)
theorem dl_606 : decode code 606 = .ok (.iaload, 1) := mlok_7 (606, .iaload, 1) (List.mem_of_getElem? (i := 24) rfl)
theorem dl_607 : decode code 607 = .ok (.aload_n 0, 1) := mlok_7 (607, .aload_n 0, 1) (List.mem_of_getElem? (i := 25) rfl)
theorem dl_608 : decode code 608 = .ok (.iload_n 3, 1) := mlok_7 (608, .iload_n 3, 1) (List.mem_of_getElem? (i := 26) rfl)
theorem dl_609 : decode code 609 = .ok (.iconst 4, 1) := mlok_7 (609, .iconst 4, 1) (List.mem_of_getElem? (i := 27) rfl)
theorem dl_610 : decode code 610 = .ok (.iadd, 1) := mlok_7 (610, .iadd, 1) (List.mem_of_getElem? (i := 28) rfl)
theorem dl_611 : decode code 611 = .ok (.iaload, 1) := mlok_7 (611, .iaload, 1) (List.mem_of_getElem? (i := 29) rfl)
theorem dl_612 : decode code 612 = .ok (.aload_n 0, 1) := mlok_7 (612, .aload_n 0, 1) (List.mem_of_getElem? (i := 30) rfl)
theorem dl_613 : decode code 613 = .ok (.iload_n 3, 1) := mlok_7 (613, .iload_n 3, 1) (List.mem_of_getElem? (i := 31) rfl)
theorem dl_614 : decode code 614 = .ok (.iconst 5, 1) := mlok_7 (614, .iconst 5, 1) (List.mem_of_getElem? (i := 32) rfl)
theorem dl_615 : decode code 615 = .ok (.iadd, 1) := mlok_7 (615, .iadd, 1) (List.mem_of_getElem? (i := 33) rfl)
theorem dl_616 : decode code 616 = .ok (.iaload, 1) := mlok_7 (616, .iaload, 1) (List.mem_of_getElem? (i := 34) rfl)
theorem dl_617 : decode code 617 = .ok (.invokevirtual 60, 3) := mlok_7 (617, .invokevirtual 60, 3) (List.mem_of_getElem? (i := 35) rfl)
theorem dl_620 : decode code 620 = .ok (.if_icmp .eq 1296, 3) := mlok_7 (620, .if_icmp .eq 1296, 3) (List.mem_of_getElem? (i := 36) rfl)
theorem dl_623 : decode code 623 = .ok (.iconst 0, 1) := mlok_7 (623, .iconst 0, 1) (List.mem_of_getElem? (i := 37) rfl)
theorem dl_624 : decode code 624 = .ok (.ireturn, 1) := mlok_7 (624, .ireturn, 1) (List.mem_of_getElem? (i := 38) rfl)
theorem dl_625 : decode code 625 = .ok (.aload_n 1, 1) := mlok_7 (625, .aload_n 1, 1) (List.mem_of_getElem? (i := 39) rfl)
theorem dl_626 : decode code 626 = .ok (.aload_n 0, 1) := mlok_7 (626, .aload_n 0, 1) (List.mem_of_getElem? (i := 40) rfl)
theorem dl_627 : decode code 627 = .ok (.iload_n 3, 1) := mlok_7 (627, .iload_n 3, 1) (List.mem_of_getElem? (i := 41) rfl)
theorem dl_628 : decode code 628 = .ok (.iconst 1, 1) := mlok_7 (628, .iconst 1, 1) (List.mem_of_getElem? (i := 42) rfl)
theorem dl_629 : decode code 629 = .ok (.iadd, 1) := mlok_7 (629, .iadd, 1) (List.mem_of_getElem? (i := 43) rfl)
theorem dl_630 : decode code 630 = .ok (.iaload, 1) := mlok_7 (630, .iaload, 1) (List.mem_of_getElem? (i := 44) rfl)
theorem dl_631 : decode code 631 = .ok (.aload_n 0, 1) := mlok_7 (631, .aload_n 0, 1) (List.mem_of_getElem? (i := 45) rfl)
theorem dl_632 : decode code 632 = .ok (.iload_n 3, 1) := mlok_7 (632, .iload_n 3, 1) (List.mem_of_getElem? (i := 46) rfl)
theorem dl_633 : decode code 633 = .ok (.iconst 2, 1) := mlok_7 (633, .iconst 2, 1) (List.mem_of_getElem? (i := 47) rfl)
theorem dl_634 : decode code 634 = .ok (.iadd, 1) := mlok_7 (634, .iadd, 1) (List.mem_of_getElem? (i := 48) rfl)
theorem dl_635 : decode code 635 = .ok (.iaload, 1) := mlok_7 (635, .iaload, 1) (List.mem_of_getElem? (i := 49) rfl)
theorem dl_636 : decode code 636 = .ok (.aload_n 0, 1) := mlok_8 (636, .aload_n 0, 1) (List.mem_of_getElem? (i := 0) rfl)
theorem dl_637 : decode code 637 = .ok (.iload_n 3, 1) := mlok_8 (637, .iload_n 3, 1) (List.mem_of_getElem? (i := 1) rfl)
theorem dl_638 : decode code 638 = .ok (.iconst 3, 1) := mlok_8 (638, .iconst 3, 1) (List.mem_of_getElem? (i := 2) rfl)
theorem dl_639 : decode code 639 = .ok (.iadd, 1) := mlok_8 (639, .iadd, 1) (List.mem_of_getElem? (i := 3) rfl)
theorem dl_640 : decode code 640 = .ok (.iaload, 1) := mlok_8 (640, .iaload, 1) (List.mem_of_getElem? (i := 4) rfl)
theorem dl_641 : decode code 641 = .ok (.aload_n 0, 1) := mlok_8 (641, .aload_n 0, 1) (List.mem_of_getElem? (i := 5) rfl)
theorem dl_642 : decode code 642 = .ok (.iload_n 3, 1) := mlok_8 (642, .iload_n 3, 1) (List.mem_of_getElem? (i := 6) rfl)
theorem dl_643 : decode code 643 = .ok (.iconst 4, 1) := mlok_8 (643, .iconst 4, 1) (List.mem_of_getElem? (i := 7) rfl)
theorem dl_644 : decode code 644 = .ok (.iadd, 1) := mlok_8 (644, .iadd, 1) (List.mem_of_getElem? (i := 8) rfl)
theorem dl_645 : decode code 645 = .ok (.iaload, 1) := mlok_8 (645, .iaload, 1) (List.mem_of_getElem? (i := 9) rfl)
theorem dl_646 : decode code 646 = .ok (.aload_n 0, 1) := mlok_8 (646, .aload_n 0, 1) (List.mem_of_getElem? (i := 10) rfl)
theorem dl_647 : decode code 647 = .ok (.iload_n 3, 1) := mlok_8 (647, .iload_n 3, 1) (List.mem_of_getElem? (i := 11) rfl)
theorem dl_648 : decode code 648 = .ok (.iconst 5, 1) := mlok_8 (648, .iconst 5, 1) (List.mem_of_getElem? (i := 12) rfl)
theorem dl_649 : decode code 649 = .ok (.iadd, 1) := mlok_8 (649, .iadd, 1) (List.mem_of_getElem? (i := 13) rfl)
theorem dl_650 : decode code 650 = .ok (.iaload, 1) := mlok_8 (650, .iaload, 1) (List.mem_of_getElem? (i := 14) rfl)
theorem dl_651 : decode code 651 = .ok (.aload_n 0, 1) := mlok_8 (651, .aload_n 0, 1) (List.mem_of_getElem? (i := 15) rfl)
theorem dl_652 : decode code 652 = .ok (.iload_n 3, 1) := mlok_8 (652, .iload_n 3, 1) (List.mem_of_getElem? (i := 16) rfl)
theorem dl_653 : decode code 653 = .ok (.bipush 6, 2) := mlok_8 (653, .bipush 6, 2) (List.mem_of_getElem? (i := 17) rfl)
theorem dl_655 : decode code 655 = .ok (.iadd, 1) := mlok_8 (655, .iadd, 1) (List.mem_of_getElem? (i := 18) rfl)
theorem dl_656 : decode code 656 = .ok (.iaload, 1) := mlok_8 (656, .iaload, 1) (List.mem_of_getElem? (i := 19) rfl)
theorem dl_657 : decode code 657 = .ok (.invokevirtual 61, 3) := mlok_8 (657, .invokevirtual 61, 3) (List.mem_of_getElem? (i := 20) rfl)
theorem dl_660 : decode code 660 = .ok (.aload_n 2, 1) := mlok_8 (660, .aload_n 2, 1) (List.mem_of_getElem? (i := 21) rfl)
theorem dl_661 : decode code 661 = .ok (.aload_n 0, 1) := mlok_8 (661, .aload_n 0, 1) (List.mem_of_getElem? (i := 22) rfl)
theorem dl_662 : decode code 662 = .ok (.iload_n 3, 1) := mlok_8 (662, .iload_n 3, 1) (List.mem_of_getElem? (i := 23) rfl)
theorem dl_663 : decode code 663 = .ok (.iconst 1, 1) := mlok_8 (663, .iconst 1, 1) (List.mem_of_getElem? (i := 24) rfl)
theorem dl_664 : decode code 664 = .ok (.iadd, 1) := mlok_8 (664, .iadd, 1) (List.mem_of_getElem? (i := 25) rfl)
theorem dl_665 : decode code 665 = .ok (.iaload, 1) := mlok_8 (665, .iaload, 1) (List.mem_of_getElem? (i := 26) rfl)
theorem dl_666 : decode code 666 = .ok (.aload_n 0, 1) := mlok_8 (666, .aload_n 0, 1) (List.mem_of_getElem? (i := 27) rfl)
theorem dl_667 : decode code 667 = .ok (.iload_n 3, 1) := mlok_8 (667, .iload_n 3, 1) (List.mem_of_getElem? (i := 28) rfl)
theorem dl_668 : decode code 668 = .ok (.iconst 2, 1) := mlok_8 (668, .iconst 2, 1) (List.mem_of_getElem? (i := 29) rfl)
theorem dl_669 : decode code 669 = .ok (.iadd, 1) := mlok_8 (669, .iadd, 1) (List.mem_of_getElem? (i := 30) rfl)
theorem dl_670 : decode code 670 = .ok (.iaload, 1) := mlok_8 (670, .iaload, 1) (List.mem_of_getElem? (i := 31) rfl)
theorem dl_671 : decode code 671 = .ok (.aload_n 0, 1) := mlok_8 (671, .aload_n 0, 1) (List.mem_of_getElem? (i := 32) rfl)
theorem dl_672 : decode code 672 = .ok (.iload_n 3, 1) := mlok_8 (672, .iload_n 3, 1) (List.mem_of_getElem? (i := 33) rfl)
theorem dl_673 : decode code 673 = .ok (.iconst 3, 1) := mlok_8 (673, .iconst 3, 1) (List.mem_of_getElem? (i := 34) rfl)
theorem dl_674 : decode code 674 = .ok (.iadd, 1) := mlok_8 (674, .iadd, 1) (List.mem_of_getElem? (i := 35) rfl)
theorem dl_675 : decode code 675 = .ok (.iaload, 1) := mlok_8 (675, .iaload, 1) (List.mem_of_getElem? (i := 36) rfl)
theorem dl_676 : decode code 676 = .ok (.aload_n 0, 1) := mlok_8 (676, .aload_n 0, 1) (List.mem_of_getElem? (i := 37) rfl)
theorem dl_677 : decode code 677 = .ok (.iload_n 3, 1) := mlok_8 (677, .iload_n 3, 1) (List.mem_of_getElem? (i := 38) rfl)
theorem dl_678 : decode code 678 = .ok (.iconst 4, 1) := mlok_8 (678, .iconst 4, 1) (List.mem_of_getElem? (i := 39) rfl)
theorem dl_679 : decode code 679 = .ok (.iadd, 1) := mlok_8 (679, .iadd, 1) (List.mem_of_getElem? (i := 40) rfl)
theorem dl_680 : decode code 680 = .ok (.iaload, 1) := mlok_8 (680, .iaload, 1) (List.mem_of_getElem? (i := 41) rfl)
theorem dl_681 : decode code 681 = .ok (.aload_n 0, 1) := mlok_8 (681, .aload_n 0, 1) (List.mem_of_getElem? (i := 42) rfl)
theorem dl_682 : decode code 682 = .ok (.iload_n 3, 1) := mlok_8 (682, .iload_n 3, 1) (List.mem_of_getElem? (i := 43) rfl)
theorem dl_683 : decode code 683 = .ok (.iconst 5, 1) := mlok_8 (683, .iconst 5, 1) (List.mem_of_getElem? (i := 44) rfl)
theorem dl_684 : decode code 684 = .ok (.iadd, 1) := mlok_8 (684, .iadd, 1) (List.mem_of_getElem? (i := 45) rfl)
theorem dl_685 : decode code 685 = .ok (.iaload, 1) := mlok_8 (685, .iaload, 1) (List.mem_of_getElem? (i := 46) rfl)
theorem dl_686 : decode code 686 = .ok (.aload_n 0, 1) := mlok_8 (686, .aload_n 0, 1) (List.mem_of_getElem? (i := 47) rfl)
theorem dl_687 : decode code 687 = .ok (.iload_n 3, 1) := mlok_8 (687, .iload_n 3, 1) (List.mem_of_getElem? (i := 48) rfl)
theorem dl_688 : decode code 688 = .ok (.bipush 6, 2) := mlok_8 (688, .bipush 6, 2) (List.mem_of_getElem? (i := 49) rfl)
theorem dl_690 : decode code 690 = .ok (.iadd, 1) := mlok_9 (690, .iadd, 1) (List.mem_of_getElem? (i := 0) rfl)
theorem dl_691 : decode code 691 = .ok (.iaload, 1) := mlok_9 (691, .iaload, 1) (List.mem_of_getElem? (i := 1) rfl)
theorem dl_692 : decode code 692 = .ok (.invokevirtual 65, 3) := mlok_9 (692, .invokevirtual 65, 3) (List.mem_of_getElem? (i := 2) rfl)
theorem dl_695 : decode code 695 = .ok (.if_icmp .eq 1221, 3) := mlok_9 (695, .if_icmp .eq 1221, 3) (List.mem_of_getElem? (i := 3) rfl)
theorem dl_698 : decode code 698 = .ok (.iconst 0, 1) := mlok_9 (698, .iconst 0, 1) (List.mem_of_getElem? (i := 4) rfl)
theorem dl_699 : decode code 699 = .ok (.ireturn, 1) := mlok_9 (699, .ireturn, 1) (List.mem_of_getElem? (i := 5) rfl)
theorem dl_700 : decode code 700 = .ok (.aload_n 1, 1) := mlok_9 (700, .aload_n 1, 1) (List.mem_of_getElem? (i := 6) rfl)
theorem dl_701 : decode code 701 = .ok (.aload_n 0, 1) := mlok_9 (701, .aload_n 0, 1) (List.mem_of_getElem? (i := 7) rfl)
theorem dl_702 : decode code 702 = .ok (.iload_n 3, 1) := mlok_9 (702, .iload_n 3, 1) (List.mem_of_getElem? (i := 8) rfl)
theorem dl_703 : decode code 703 = .ok (.iconst 1, 1) := mlok_9 (703, .iconst 1, 1) (List.mem_of_getElem? (i := 9) rfl)
theorem dl_704 : decode code 704 = .ok (.iadd, 1) := mlok_9 (704, .iadd, 1) (List.mem_of_getElem? (i := 10) rfl)
theorem dl_705 : decode code 705 = .ok (.iaload, 1) := mlok_9 (705, .iaload, 1) (List.mem_of_getElem? (i := 11) rfl)
theorem dl_706 : decode code 706 = .ok (.aload_n 0, 1) := mlok_9 (706, .aload_n 0, 1) (List.mem_of_getElem? (i := 12) rfl)
theorem dl_707 : decode code 707 = .ok (.iload_n 3, 1) := mlok_9 (707, .iload_n 3, 1) (List.mem_of_getElem? (i := 13) rfl)
theorem dl_708 : decode code 708 = .ok (.iconst 2, 1) := mlok_9 (708, .iconst 2, 1) (List.mem_of_getElem? (i := 14) rfl)
theorem dl_709 : decode code 709 = .ok (.iadd, 1) := mlok_9 (709, .iadd, 1) (List.mem_of_getElem? (i := 15) rfl)
theorem dl_710 : decode code 710 = .ok (.iaload, 1) := mlok_9 (710, .iaload, 1) (List.mem_of_getElem? (i := 16) rfl)
theorem dl_711 : decode code 711 = .ok (.aload_n 0, 1) := mlok_9 (711, .aload_n 0, 1) (List.mem_of_getElem? (i := 17) rfl)
theorem dl_712 : decode code 712 = .ok (.iload_n 3, 1) := mlok_9 (712, .iload_n 3, 1) (List.mem_of_getElem? (i := 18) rfl)
theorem dl_713 : decode code 713 = .ok (.iconst 3, 1) := mlok_9 (713, .iconst 3, 1) (List.mem_of_getElem? (i := 19) rfl)
theorem dl_714 : decode code 714 = .ok (.iadd, 1) := mlok_9 (714, .iadd, 1) (List.mem_of_getElem? (i := 20) rfl)
theorem dl_715 : decode code 715 = .ok (.iaload, 1) := mlok_9 (715, .iaload, 1) (List.mem_of_getElem? (i := 21) rfl)
theorem dl_716 : decode code 716 = .ok (.invokevirtual 66, 3) := mlok_9 (716, .invokevirtual 66, 3) (List.mem_of_getElem? (i := 22) rfl)
theorem dl_719 : decode code 719 = .ok (.aload_n 2, 1) := mlok_9 (719, .aload_n 2, 1) (List.mem_of_getElem? (i := 23) rfl)
theorem dl_720 : decode code 720 = .ok (.aload_n 0, 1) := mlok_9 (720, .aload_n 0, 1) (List.mem_of_getElem? (i := 24) rfl)
theorem dl_721 : decode code 721 = .ok (.iload_n 3, 1) := mlok_9 (721, .iload_n 3, 1) (List.mem_of_getElem? (i := 25) rfl)
theorem dl_722 : decode code 722 = .ok (.iconst 1, 1) := mlok_9 (722, .iconst 1, 1) (List.mem_of_getElem? (i := 26) rfl)
theorem dl_723 : decode code 723 = .ok (.iadd, 1) := mlok_9 (723, .iadd, 1) (List.mem_of_getElem? (i := 27) rfl)
theorem dl_724 : decode code 724 = .ok (.iaload, 1) := mlok_9 (724, .iaload, 1) (List.mem_of_getElem? (i := 28) rfl)
theorem dl_725 : decode code 725 = .ok (.aload_n 0, 1) := mlok_9 (725, .aload_n 0, 1) (List.mem_of_getElem? (i := 29) rfl)
theorem dl_726 : decode code 726 = .ok (.iload_n 3, 1) := mlok_9 (726, .iload_n 3, 1) (List.mem_of_getElem? (i := 30) rfl)
theorem dl_727 : decode code 727 = .ok (.iconst 2, 1) := mlok_9 (727, .iconst 2, 1) (List.mem_of_getElem? (i := 31) rfl)
theorem dl_728 : decode code 728 = .ok (.iadd, 1) := mlok_9 (728, .iadd, 1) (List.mem_of_getElem? (i := 32) rfl)
theorem dl_729 : decode code 729 = .ok (.iaload, 1) := mlok_9 (729, .iaload, 1) (List.mem_of_getElem? (i := 33) rfl)
theorem dl_730 : decode code 730 = .ok (.aload_n 0, 1) := mlok_9 (730, .aload_n 0, 1) (List.mem_of_getElem? (i := 34) rfl)
theorem dl_731 : decode code 731 = .ok (.iload_n 3, 1) := mlok_9 (731, .iload_n 3, 1) (List.mem_of_getElem? (i := 35) rfl)
theorem dl_732 : decode code 732 = .ok (.iconst 3, 1) := mlok_9 (732, .iconst 3, 1) (List.mem_of_getElem? (i := 36) rfl)
theorem dl_733 : decode code 733 = .ok (.iadd, 1) := mlok_9 (733, .iadd, 1) (List.mem_of_getElem? (i := 37) rfl)
theorem dl_734 : decode code 734 = .ok (.iaload, 1) := mlok_9 (734, .iaload, 1) (List.mem_of_getElem? (i := 38) rfl)
theorem dl_735 : decode code 735 = .ok (.invokevirtual 69, 3) := mlok_9 (735, .invokevirtual 69, 3) (List.mem_of_getElem? (i := 39) rfl)
theorem dl_738 : decode code 738 = .ok (.if_icmp .eq 1178, 3) := mlok_9 (738, .if_icmp .eq 1178, 3) (List.mem_of_getElem? (i := 40) rfl)
theorem dl_741 : decode code 741 = .ok (.iconst 0, 1) := mlok_9 (741, .iconst 0, 1) (List.mem_of_getElem? (i := 41) rfl)
theorem dl_742 : decode code 742 = .ok (.ireturn, 1) := mlok_9 (742, .ireturn, 1) (List.mem_of_getElem? (i := 42) rfl)
theorem dl_743 : decode code 743 = .ok (.aload_n 1, 1) := mlok_9 (743, .aload_n 1, 1) (List.mem_of_getElem? (i := 43) rfl)
theorem dl_744 : decode code 744 = .ok (.aload_n 0, 1) := mlok_9 (744, .aload_n 0, 1) (List.mem_of_getElem? (i := 44) rfl)
theorem dl_745 : decode code 745 = .ok (.iload_n 3, 1) := mlok_9 (745, .iload_n 3, 1) (List.mem_of_getElem? (i := 45) rfl)
theorem dl_746 : decode code 746 = .ok (.iconst 1, 1) := mlok_9 (746, .iconst 1, 1) (List.mem_of_getElem? (i := 46) rfl)
theorem dl_747 : decode code 747 = .ok (.iadd, 1) := mlok_9 (747, .iadd, 1) (List.mem_of_getElem? (i := 47) rfl)
theorem dl_748 : decode code 748 = .ok (.iaload, 1) := mlok_9 (748, .iaload, 1) (List.mem_of_getElem? (i := 48) rfl)
theorem dl_749 : decode code 749 = .ok (.aload_n 0, 1) := mlok_9 (749, .aload_n 0, 1) (List.mem_of_getElem? (i := 49) rfl)
theorem dl_750 : decode code 750 = .ok (.iload_n 3, 1) := mlok_10 (750, .iload_n 3, 1) (List.mem_of_getElem? (i := 0) rfl)
theorem dl_751 : decode code 751 = .ok (.iconst 2, 1) := mlok_10 (751, .iconst 2, 1) (List.mem_of_getElem? (i := 1) rfl)
theorem dl_752 : decode code 752 = .ok (.iadd, 1) := mlok_10 (752, .iadd, 1) (List.mem_of_getElem? (i := 2) rfl)
theorem dl_753 : decode code 753 = .ok (.iaload, 1) := mlok_10 (753, .iaload, 1) (List.mem_of_getElem? (i := 3) rfl)
theorem dl_754 : decode code 754 = .ok (.aload_n 0, 1) := mlok_10 (754, .aload_n 0, 1) (List.mem_of_getElem? (i := 4) rfl)
theorem dl_755 : decode code 755 = .ok (.iload_n 3, 1) := mlok_10 (755, .iload_n 3, 1) (List.mem_of_getElem? (i := 5) rfl)
theorem dl_756 : decode code 756 = .ok (.iconst 3, 1) := mlok_10 (756, .iconst 3, 1) (List.mem_of_getElem? (i := 6) rfl)
theorem dl_757 : decode code 757 = .ok (.iadd, 1) := mlok_10 (757, .iadd, 1) (List.mem_of_getElem? (i := 7) rfl)
theorem dl_758 : decode code 758 = .ok (.iaload, 1) := mlok_10 (758, .iaload, 1) (List.mem_of_getElem? (i := 8) rfl)
theorem dl_759 : decode code 759 = .ok (.aload_n 0, 1) := mlok_10 (759, .aload_n 0, 1) (List.mem_of_getElem? (i := 9) rfl)
theorem dl_760 : decode code 760 = .ok (.iload_n 3, 1) := mlok_10 (760, .iload_n 3, 1) (List.mem_of_getElem? (i := 10) rfl)
theorem dl_761 : decode code 761 = .ok (.iconst 4, 1) := mlok_10 (761, .iconst 4, 1) (List.mem_of_getElem? (i := 11) rfl)
theorem dl_762 : decode code 762 = .ok (.iadd, 1) := mlok_10 (762, .iadd, 1) (List.mem_of_getElem? (i := 12) rfl)
theorem dl_763 : decode code 763 = .ok (.iaload, 1) := mlok_10 (763, .iaload, 1) (List.mem_of_getElem? (i := 13) rfl)
theorem dl_764 : decode code 764 = .ok (.aload_n 0, 1) := mlok_10 (764, .aload_n 0, 1) (List.mem_of_getElem? (i := 14) rfl)
theorem dl_765 : decode code 765 = .ok (.iload_n 3, 1) := mlok_10 (765, .iload_n 3, 1) (List.mem_of_getElem? (i := 15) rfl)
theorem dl_766 : decode code 766 = .ok (.iconst 5, 1) := mlok_10 (766, .iconst 5, 1) (List.mem_of_getElem? (i := 16) rfl)
theorem dl_767 : decode code 767 = .ok (.iadd, 1) := mlok_10 (767, .iadd, 1) (List.mem_of_getElem? (i := 17) rfl)
theorem dl_768 : decode code 768 = .ok (.iaload, 1) := mlok_10 (768, .iaload, 1) (List.mem_of_getElem? (i := 18) rfl)
theorem dl_769 : decode code 769 = .ok (.invokevirtual 70, 3) := mlok_10 (769, .invokevirtual 70, 3) (List.mem_of_getElem? (i := 19) rfl)
theorem dl_772 : decode code 772 = .ok (.aload_n 2, 1) := mlok_10 (772, .aload_n 2, 1) (List.mem_of_getElem? (i := 20) rfl)
theorem dl_773 : decode code 773 = .ok (.aload_n 0, 1) := mlok_10 (773, .aload_n 0, 1) (List.mem_of_getElem? (i := 21) rfl)
theorem dl_774 : decode code 774 = .ok (.iload_n 3, 1) := mlok_10 (774, .iload_n 3, 1) (List.mem_of_getElem? (i := 22) rfl)
theorem dl_775 : decode code 775 = .ok (.iconst 1, 1) := mlok_10 (775, .iconst 1, 1) (List.mem_of_getElem? (i := 23) rfl)
theorem dl_776 : decode code 776 = .ok (.iadd, 1) := mlok_10 (776, .iadd, 1) (List.mem_of_getElem? (i := 24) rfl)
theorem dl_777 : decode code 777 = .ok (.iaload, 1) := mlok_10 (777, .iaload, 1) (List.mem_of_getElem? (i := 25) rfl)
theorem dl_778 : decode code 778 = .ok (.aload_n 0, 1) := mlok_10 (778, .aload_n 0, 1) (List.mem_of_getElem? (i := 26) rfl)
theorem dl_779 : decode code 779 = .ok (.iload_n 3, 1) := mlok_10 (779, .iload_n 3, 1) (List.mem_of_getElem? (i := 27) rfl)
theorem dl_780 : decode code 780 = .ok (.iconst 2, 1) := mlok_10 (780, .iconst 2, 1) (List.mem_of_getElem? (i := 28) rfl)
theorem dl_781 : decode code 781 = .ok (.iadd, 1) := mlok_10 (781, .iadd, 1) (List.mem_of_getElem? (i := 29) rfl)
theorem dl_782 : decode code 782 = .ok (.iaload, 1) := mlok_10 (782, .iaload, 1) (List.mem_of_getElem? (i := 30) rfl)
theorem dl_783 : decode code 783 = .ok (.aload_n 0, 1) := mlok_10 (783, .aload_n 0, 1) (List.mem_of_getElem? (i := 31) rfl)
theorem dl_784 : decode code 784 = .ok (.iload_n 3, 1) := mlok_10 (784, .iload_n 3, 1) (List.mem_of_getElem? (i := 32) rfl)
theorem dl_785 : decode code 785 = .ok (.iconst 3, 1) := mlok_10 (785, .iconst 3, 1) (List.mem_of_getElem? (i := 33) rfl)
theorem dl_786 : decode code 786 = .ok (.iadd, 1) := mlok_10 (786, .iadd, 1) (List.mem_of_getElem? (i := 34) rfl)
theorem dl_787 : decode code 787 = .ok (.iaload, 1) := mlok_10 (787, .iaload, 1) (List.mem_of_getElem? (i := 35) rfl)
theorem dl_788 : decode code 788 = .ok (.aload_n 0, 1) := mlok_10 (788, .aload_n 0, 1) (List.mem_of_getElem? (i := 36) rfl)
theorem dl_789 : decode code 789 = .ok (.iload_n 3, 1) := mlok_10 (789, .iload_n 3, 1) (List.mem_of_getElem? (i := 37) rfl)
theorem dl_790 : decode code 790 = .ok (.iconst 4, 1) := mlok_10 (790, .iconst 4, 1) (List.mem_of_getElem? (i := 38) rfl)
theorem dl_791 : decode code 791 = .ok (.iadd, 1) := mlok_10 (791, .iadd, 1) (List.mem_of_getElem? (i := 39) rfl)
theorem dl_792 : decode code 792 = .ok (.iaload, 1) := mlok_10 (792, .iaload, 1) (List.mem_of_getElem? (i := 40) rfl)
theorem dl_793 : decode code 793 = .ok (.aload_n 0, 1) := mlok_10 (793, .aload_n 0, 1) (List.mem_of_getElem? (i := 41) rfl)
theorem dl_794 : decode code 794 = .ok (.iload_n 3, 1) := mlok_10 (794, .iload_n 3, 1) (List.mem_of_getElem? (i := 42) rfl)
theorem dl_795 : decode code 795 = .ok (.iconst 5, 1) := mlok_10 (795, .iconst 5, 1) (List.mem_of_getElem? (i := 43) rfl)
theorem dl_796 : decode code 796 = .ok (.iadd, 1) := mlok_10 (796, .iadd, 1) (List.mem_of_getElem? (i := 44) rfl)
theorem dl_797 : decode code 797 = .ok (.iaload, 1) := mlok_10 (797, .iaload, 1) (List.mem_of_getElem? (i := 45) rfl)
theorem dl_798 : decode code 798 = .ok (.invokevirtual 73, 3) := mlok_10 (798, .invokevirtual 73, 3) (List.mem_of_getElem? (i := 46) rfl)
theorem dl_801 : decode code 801 = .ok (.if_icmp .eq 1115, 3) := mlok_10 (801, .if_icmp .eq 1115, 3) (List.mem_of_getElem? (i := 47) rfl)
theorem dl_804 : decode code 804 = .ok (.iconst 0, 1) := mlok_10 (804, .iconst 0, 1) (List.mem_of_getElem? (i := 48) rfl)
theorem dl_805 : decode code 805 = .ok (.ireturn, 1) := mlok_10 (805, .ireturn, 1) (List.mem_of_getElem? (i := 49) rfl)
theorem dl_806 : decode code 806 = .ok (.aload_n 1, 1) := mlok_11 (806, .aload_n 1, 1) (List.mem_of_getElem? (i := 0) rfl)
theorem dl_807 : decode code 807 = .ok (.aload_n 0, 1) := mlok_11 (807, .aload_n 0, 1) (List.mem_of_getElem? (i := 1) rfl)
theorem dl_808 : decode code 808 = .ok (.iload_n 3, 1) := mlok_11 (808, .iload_n 3, 1) (List.mem_of_getElem? (i := 2) rfl)
theorem dl_809 : decode code 809 = .ok (.iconst 1, 1) := mlok_11 (809, .iconst 1, 1) (List.mem_of_getElem? (i := 3) rfl)
theorem dl_810 : decode code 810 = .ok (.iadd, 1) := mlok_11 (810, .iadd, 1) (List.mem_of_getElem? (i := 4) rfl)
theorem dl_811 : decode code 811 = .ok (.iaload, 1) := mlok_11 (811, .iaload, 1) (List.mem_of_getElem? (i := 5) rfl)
theorem dl_812 : decode code 812 = .ok (.aload_n 0, 1) := mlok_11 (812, .aload_n 0, 1) (List.mem_of_getElem? (i := 6) rfl)
theorem dl_813 : decode code 813 = .ok (.iload_n 3, 1) := mlok_11 (813, .iload_n 3, 1) (List.mem_of_getElem? (i := 7) rfl)
theorem dl_814 : decode code 814 = .ok (.iconst 2, 1) := mlok_11 (814, .iconst 2, 1) (List.mem_of_getElem? (i := 8) rfl)
theorem dl_815 : decode code 815 = .ok (.iadd, 1) := mlok_11 (815, .iadd, 1) (List.mem_of_getElem? (i := 9) rfl)
theorem dl_816 : decode code 816 = .ok (.iaload, 1) := mlok_11 (816, .iaload, 1) (List.mem_of_getElem? (i := 10) rfl)
theorem dl_817 : decode code 817 = .ok (.aload_n 0, 1) := mlok_11 (817, .aload_n 0, 1) (List.mem_of_getElem? (i := 11) rfl)
theorem dl_818 : decode code 818 = .ok (.iload_n 3, 1) := mlok_11 (818, .iload_n 3, 1) (List.mem_of_getElem? (i := 12) rfl)
theorem dl_819 : decode code 819 = .ok (.iconst 3, 1) := mlok_11 (819, .iconst 3, 1) (List.mem_of_getElem? (i := 13) rfl)
theorem dl_820 : decode code 820 = .ok (.iadd, 1) := mlok_11 (820, .iadd, 1) (List.mem_of_getElem? (i := 14) rfl)
theorem dl_821 : decode code 821 = .ok (.iaload, 1) := mlok_11 (821, .iaload, 1) (List.mem_of_getElem? (i := 15) rfl)
theorem dl_822 : decode code 822 = .ok (.invokevirtual 74, 3) := mlok_11 (822, .invokevirtual 74, 3) (List.mem_of_getElem? (i := 16) rfl)
theorem dl_825 : decode code 825 = .ok (.aload_n 2, 1) := mlok_11 (825, .aload_n 2, 1) (List.mem_of_getElem? (i := 17) rfl)
theorem dl_826 : decode code 826 = .ok (.aload_n 0, 1) := mlok_11 (826, .aload_n 0, 1) (List.mem_of_getElem? (i := 18) rfl)
theorem dl_827 : decode code 827 = .ok (.iload_n 3, 1) := mlok_11 (827, .iload_n 3, 1) (List.mem_of_getElem? (i := 19) rfl)
theorem dl_828 : decode code 828 = .ok (.iconst 1, 1) := mlok_11 (828, .iconst 1, 1) (List.mem_of_getElem? (i := 20) rfl)
theorem dl_829 : decode code 829 = .ok (.iadd, 1) := mlok_11 (829, .iadd, 1) (List.mem_of_getElem? (i := 21) rfl)
theorem dl_830 : decode code 830 = .ok (.iaload, 1) := mlok_11 (830, .iaload, 1) (List.mem_of_getElem? (i := 22) rfl)
theorem dl_831 : decode code 831 = .ok (.aload_n 0, 1) := mlok_11 (831, .aload_n 0, 1) (List.mem_of_getElem? (i := 23) rfl)
theorem dl_832 : decode code 832 = .ok (.iload_n 3, 1) := mlok_11 (832, .iload_n 3, 1) (List.mem_of_getElem? (i := 24) rfl)
theorem dl_833 : decode code 833 = .ok (.iconst 2, 1) := mlok_11 (833, .iconst 2, 1) (List.mem_of_getElem? (i := 25) rfl)
theorem dl_834 : decode code 834 = .ok (.iadd, 1) := mlok_11 (834, .iadd, 1) (List.mem_of_getElem? (i := 26) rfl)
theorem dl_835 : decode code 835 = .ok (.iaload, 1) := mlok_11 (835, .iaload, 1) (List.mem_of_getElem? (i := 27) rfl)
theorem dl_836 : decode code 836 = .ok (.aload_n 0, 1) := mlok_11 (836, .aload_n 0, 1) (List.mem_of_getElem? (i := 28) rfl)
theorem dl_837 : decode code 837 = .ok (.iload_n 3, 1) := mlok_11 (837, .iload_n 3, 1) (List.mem_of_getElem? (i := 29) rfl)
theorem dl_838 : decode code 838 = .ok (.iconst 3, 1) := mlok_11 (838, .iconst 3, 1) (List.mem_of_getElem? (i := 30) rfl)
theorem dl_839 : decode code 839 = .ok (.iadd, 1) := mlok_11 (839, .iadd, 1) (List.mem_of_getElem? (i := 31) rfl)
theorem dl_840 : decode code 840 = .ok (.iaload, 1) := mlok_11 (840, .iaload, 1) (List.mem_of_getElem? (i := 32) rfl)
theorem dl_841 : decode code 841 = .ok (.invokevirtual 77, 3) := mlok_11 (841, .invokevirtual 77, 3) (List.mem_of_getElem? (i := 33) rfl)
theorem dl_844 : decode code 844 = .ok (.if_icmp .eq 1072, 3) := mlok_11 (844, .if_icmp .eq 1072, 3) (List.mem_of_getElem? (i := 34) rfl)
theorem dl_847 : decode code 847 = .ok (.iconst 0, 1) := mlok_11 (847, .iconst 0, 1) (List.mem_of_getElem? (i := 35) rfl)
theorem dl_848 : decode code 848 = .ok (.ireturn, 1) := mlok_11 (848, .ireturn, 1) (List.mem_of_getElem? (i := 36) rfl)
theorem dl_849 : decode code 849 = .ok (.aload_n 1, 1) := mlok_11 (849, .aload_n 1, 1) (List.mem_of_getElem? (i := 37) rfl)
theorem dl_850 : decode code 850 = .ok (.aload_n 0, 1) := mlok_11 (850, .aload_n 0, 1) (List.mem_of_getElem? (i := 38) rfl)
theorem dl_851 : decode code 851 = .ok (.iload_n 3, 1) := mlok_11 (851, .iload_n 3, 1) (List.mem_of_getElem? (i := 39) rfl)
theorem dl_852 : decode code 852 = .ok (.iconst 1, 1) := mlok_11 (852, .iconst 1, 1) (List.mem_of_getElem? (i := 40) rfl)
theorem dl_853 : decode code 853 = .ok (.iadd, 1) := mlok_11 (853, .iadd, 1) (List.mem_of_getElem? (i := 41) rfl)
theorem dl_854 : decode code 854 = .ok (.iaload, 1) := mlok_11 (854, .iaload, 1) (List.mem_of_getElem? (i := 42) rfl)
theorem dl_855 : decode code 855 = .ok (.aload_n 0, 1) := mlok_11 (855, .aload_n 0, 1) (List.mem_of_getElem? (i := 43) rfl)
theorem dl_856 : decode code 856 = .ok (.iload_n 3, 1) := mlok_11 (856, .iload_n 3, 1) (List.mem_of_getElem? (i := 44) rfl)
theorem dl_857 : decode code 857 = .ok (.iconst 2, 1) := mlok_11 (857, .iconst 2, 1) (List.mem_of_getElem? (i := 45) rfl)
theorem dl_858 : decode code 858 = .ok (.iadd, 1) := mlok_11 (858, .iadd, 1) (List.mem_of_getElem? (i := 46) rfl)
theorem dl_859 : decode code 859 = .ok (.iaload, 1) := mlok_11 (859, .iaload, 1) (List.mem_of_getElem? (i := 47) rfl)
theorem dl_860 : decode code 860 = .ok (.aload_n 0, 1) := mlok_11 (860, .aload_n 0, 1) (List.mem_of_getElem? (i := 48) rfl)
theorem dl_861 : decode code 861 = .ok (.iload_n 3, 1) := mlok_11 (861, .iload_n 3, 1) (List.mem_of_getElem? (i := 49) rfl)
theorem dl_862 : decode code 862 = .ok (.iconst 3, 1) := mlok_12 (862, .iconst 3, 1) (List.mem_of_getElem? (i := 0) rfl)
theorem dl_863 : decode code 863 = .ok (.iadd, 1) := mlok_12 (863, .iadd, 1) (List.mem_of_getElem? (i := 1) rfl)
theorem dl_864 : decode code 864 = .ok (.iaload, 1) := mlok_12 (864, .iaload, 1) (List.mem_of_getElem? (i := 2) rfl)
theorem dl_865 : decode code 865 = .ok (.invokevirtual 78, 3) := mlok_12 (865, .invokevirtual 78, 3) (List.mem_of_getElem? (i := 3) rfl)
theorem dl_868 : decode code 868 = .ok (.aload_n 2, 1) := mlok_12 (868, .aload_n 2, 1) (List.mem_of_getElem? (i := 4) rfl)
theorem dl_869 : decode code 869 = .ok (.aload_n 0, 1) := mlok_12 (869, .aload_n 0, 1) (List.mem_of_getElem? (i := 5) rfl)
theorem dl_870 : decode code 870 = .ok (.iload_n 3, 1) := mlok_12 (870, .iload_n 3, 1) (List.mem_of_getElem? (i := 6) rfl)
theorem dl_871 : decode code 871 = .ok (.iconst 1, 1) := mlok_12 (871, .iconst 1, 1) (List.mem_of_getElem? (i := 7) rfl)
theorem dl_872 : decode code 872 = .ok (.iadd, 1) := mlok_12 (872, .iadd, 1) (List.mem_of_getElem? (i := 8) rfl)
theorem dl_873 : decode code 873 = .ok (.iaload, 1) := mlok_12 (873, .iaload, 1) (List.mem_of_getElem? (i := 9) rfl)
theorem dl_874 : decode code 874 = .ok (.aload_n 0, 1) := mlok_12 (874, .aload_n 0, 1) (List.mem_of_getElem? (i := 10) rfl)
theorem dl_875 : decode code 875 = .ok (.iload_n 3, 1) := mlok_12 (875, .iload_n 3, 1) (List.mem_of_getElem? (i := 11) rfl)
theorem dl_876 : decode code 876 = .ok (.iconst 2, 1) := mlok_12 (876, .iconst 2, 1) (List.mem_of_getElem? (i := 12) rfl)
theorem dl_877 : decode code 877 = .ok (.iadd, 1) := mlok_12 (877, .iadd, 1) (List.mem_of_getElem? (i := 13) rfl)
theorem dl_878 : decode code 878 = .ok (.iaload, 1) := mlok_12 (878, .iaload, 1) (List.mem_of_getElem? (i := 14) rfl)
theorem dl_879 : decode code 879 = .ok (.aload_n 0, 1) := mlok_12 (879, .aload_n 0, 1) (List.mem_of_getElem? (i := 15) rfl)
theorem dl_880 : decode code 880 = .ok (.iload_n 3, 1) := mlok_12 (880, .iload_n 3, 1) (List.mem_of_getElem? (i := 16) rfl)
theorem dl_881 : decode code 881 = .ok (.iconst 3, 1) := mlok_12 (881, .iconst 3, 1) (List.mem_of_getElem? (i := 17) rfl)
theorem dl_882 : decode code 882 = .ok (.iadd, 1) := mlok_12 (882, .iadd, 1) (List.mem_of_getElem? (i := 18) rfl)
theorem dl_883 : decode code 883 = .ok (.iaload, 1) := mlok_12 (883, .iaload, 1) (List.mem_of_getElem? (i := 19) rfl)
theorem dl_884 : decode code 884 = .ok (.invokevirtual 81, 3) := mlok_12 (884, .invokevirtual 81, 3) (List.mem_of_getElem? (i := 20) rfl)
theorem dl_887 : decode code 887 = .ok (.if_icmp .eq 1029, 3) := mlok_12 (887, .if_icmp .eq 1029, 3) (List.mem_of_getElem? (i := 21) rfl)
theorem dl_890 : decode code 890 = .ok (.iconst 0, 1) := mlok_12 (890, .iconst 0, 1) (List.mem_of_getElem? (i := 22) rfl)
theorem dl_891 : decode code 891 = .ok (.ireturn, 1) := mlok_12 (891, .ireturn, 1) (List.mem_of_getElem? (i := 23) rfl)
theorem dl_892 : decode code 892 = .ok (.aload_n 1, 1) := mlok_12 (892, .aload_n 1, 1) (List.mem_of_getElem? (i := 24) rfl)
theorem dl_893 : decode code 893 = .ok (.aload_n 0, 1) := mlok_12 (893, .aload_n 0, 1) (List.mem_of_getElem? (i := 25) rfl)
theorem dl_894 : decode code 894 = .ok (.iload_n 3, 1) := mlok_12 (894, .iload_n 3, 1) (List.mem_of_getElem? (i := 26) rfl)
theorem dl_895 : decode code 895 = .ok (.iconst 1, 1) := mlok_12 (895, .iconst 1, 1) (List.mem_of_getElem? (i := 27) rfl)
theorem dl_896 : decode code 896 = .ok (.iadd, 1) := mlok_12 (896, .iadd, 1) (List.mem_of_getElem? (i := 28) rfl)
theorem dl_897 : decode code 897 = .ok (.iaload, 1) := mlok_12 (897, .iaload, 1) (List.mem_of_getElem? (i := 29) rfl)
theorem dl_898 : decode code 898 = .ok (.aload_n 0, 1) := mlok_12 (898, .aload_n 0, 1) (List.mem_of_getElem? (i := 30) rfl)
theorem dl_899 : decode code 899 = .ok (.iload_n 3, 1) := mlok_12 (899, .iload_n 3, 1) (List.mem_of_getElem? (i := 31) rfl)
theorem dl_900 : decode code 900 = .ok (.iconst 2, 1) := mlok_12 (900, .iconst 2, 1) (List.mem_of_getElem? (i := 32) rfl)
theorem dl_901 : decode code 901 = .ok (.iadd, 1) := mlok_12 (901, .iadd, 1) (List.mem_of_getElem? (i := 33) rfl)
theorem dl_902 : decode code 902 = .ok (.iaload, 1) := mlok_12 (902, .iaload, 1) (List.mem_of_getElem? (i := 34) rfl)
theorem dl_903 : decode code 903 = .ok (.aload_n 0, 1) := mlok_12 (903, .aload_n 0, 1) (List.mem_of_getElem? (i := 35) rfl)
theorem dl_904 : decode code 904 = .ok (.iload_n 3, 1) := mlok_12 (904, .iload_n 3, 1) (List.mem_of_getElem? (i := 36) rfl)
theorem dl_905 : decode code 905 = .ok (.iconst 3, 1) := mlok_12 (905, .iconst 3, 1) (List.mem_of_getElem? (i := 37) rfl)
theorem dl_906 : decode code 906 = .ok (.iadd, 1) := mlok_12 (906, .iadd, 1) (List.mem_of_getElem? (i := 38) rfl)
theorem dl_907 : decode code 907 = .ok (.iaload, 1) := mlok_12 (907, .iaload, 1) (List.mem_of_getElem? (i := 39) rfl)
theorem dl_908 : decode code 908 = .ok (.aload_n 0, 1) := mlok_12 (908, .aload_n 0, 1) (List.mem_of_getElem? (i := 40) rfl)
theorem dl_909 : decode code 909 = .ok (.iload_n 3, 1) := mlok_12 (909, .iload_n 3, 1) (List.mem_of_getElem? (i := 41) rfl)
theorem dl_910 : decode code 910 = .ok (.iconst 4, 1) := mlok_12 (910, .iconst 4, 1) (List.mem_of_getElem? (i := 42) rfl)
theorem dl_911 : decode code 911 = .ok (.iadd, 1) := mlok_12 (911, .iadd, 1) (List.mem_of_getElem? (i := 43) rfl)
theorem dl_912 : decode code 912 = .ok (.iaload, 1) := mlok_12 (912, .iaload, 1) (List.mem_of_getElem? (i := 44) rfl)
theorem dl_913 : decode code 913 = .ok (.invokevirtual 82, 3) := mlok_12 (913, .invokevirtual 82, 3) (List.mem_of_getElem? (i := 45) rfl)
theorem dl_916 : decode code 916 = .ok (.aload_n 2, 1) := mlok_12 (916, .aload_n 2, 1) (List.mem_of_getElem? (i := 46) rfl)
theorem dl_917 : decode code 917 = .ok (.aload_n 0, 1) := mlok_12 (917, .aload_n 0, 1) (List.mem_of_getElem? (i := 47) rfl)
theorem dl_918 : decode code 918 = .ok (.iload_n 3, 1) := mlok_12 (918, .iload_n 3, 1) (List.mem_of_getElem? (i := 48) rfl)
theorem dl_919 : decode code 919 = .ok (.iconst 1, 1) := mlok_12 (919, .iconst 1, 1) (List.mem_of_getElem? (i := 49) rfl)
theorem dl_920 : decode code 920 = .ok (.iadd, 1) := mlok_13 (920, .iadd, 1) (List.mem_of_getElem? (i := 0) rfl)
theorem dl_921 : decode code 921 = .ok (.iaload, 1) := mlok_13 (921, .iaload, 1) (List.mem_of_getElem? (i := 1) rfl)
theorem dl_922 : decode code 922 = .ok (.aload_n 0, 1) := mlok_13 (922, .aload_n 0, 1) (List.mem_of_getElem? (i := 2) rfl)
theorem dl_923 : decode code 923 = .ok (.iload_n 3, 1) := mlok_13 (923, .iload_n 3, 1) (List.mem_of_getElem? (i := 3) rfl)
theorem dl_924 : decode code 924 = .ok (.iconst 2, 1) := mlok_13 (924, .iconst 2, 1) (List.mem_of_getElem? (i := 4) rfl)
theorem dl_925 : decode code 925 = .ok (.iadd, 1) := mlok_13 (925, .iadd, 1) (List.mem_of_getElem? (i := 5) rfl)
theorem dl_926 : decode code 926 = .ok (.iaload, 1) := mlok_13 (926, .iaload, 1) (List.mem_of_getElem? (i := 6) rfl)
theorem dl_927 : decode code 927 = .ok (.aload_n 0, 1) := mlok_13 (927, .aload_n 0, 1) (List.mem_of_getElem? (i := 7) rfl)
theorem dl_928 : decode code 928 = .ok (.iload_n 3, 1) := mlok_13 (928, .iload_n 3, 1) (List.mem_of_getElem? (i := 8) rfl)
theorem dl_929 : decode code 929 = .ok (.iconst 3, 1) := mlok_13 (929, .iconst 3, 1) (List.mem_of_getElem? (i := 9) rfl)
theorem dl_930 : decode code 930 = .ok (.iadd, 1) := mlok_13 (930, .iadd, 1) (List.mem_of_getElem? (i := 10) rfl)
theorem dl_931 : decode code 931 = .ok (.iaload, 1) := mlok_13 (931, .iaload, 1) (List.mem_of_getElem? (i := 11) rfl)
theorem dl_932 : decode code 932 = .ok (.aload_n 0, 1) := mlok_13 (932, .aload_n 0, 1) (List.mem_of_getElem? (i := 12) rfl)
theorem dl_933 : decode code 933 = .ok (.iload_n 3, 1) := mlok_13 (933, .iload_n 3, 1) (List.mem_of_getElem? (i := 13) rfl)
theorem dl_934 : decode code 934 = .ok (.iconst 4, 1) := mlok_13 (934, .iconst 4, 1) (List.mem_of_getElem? (i := 14) rfl)
theorem dl_935 : decode code 935 = .ok (.iadd, 1) := mlok_13 (935, .iadd, 1) (List.mem_of_getElem? (i := 15) rfl)
theorem dl_936 : decode code 936 = .ok (.iaload, 1) := mlok_13 (936, .iaload, 1) (List.mem_of_getElem? (i := 16) rfl)
theorem dl_937 : decode code 937 = .ok (.invokevirtual 86, 3) := mlok_13 (937, .invokevirtual 86, 3) (List.mem_of_getElem? (i := 17) rfl)
theorem dl_940 : decode code 940 = .ok (.if_icmp .eq 976, 3) := mlok_13 (940, .if_icmp .eq 976, 3) (List.mem_of_getElem? (i := 18) rfl)
theorem dl_943 : decode code 943 = .ok (.iconst 0, 1) := mlok_13 (943, .iconst 0, 1) (List.mem_of_getElem? (i := 19) rfl)
theorem dl_944 : decode code 944 = .ok (.ireturn, 1) := mlok_13 (944, .ireturn, 1) (List.mem_of_getElem? (i := 20) rfl)
theorem dl_945 : decode code 945 = .ok (.aload_n 1, 1) := mlok_13 (945, .aload_n 1, 1) (List.mem_of_getElem? (i := 21) rfl)
theorem dl_946 : decode code 946 = .ok (.aload_n 0, 1) := mlok_13 (946, .aload_n 0, 1) (List.mem_of_getElem? (i := 22) rfl)
theorem dl_947 : decode code 947 = .ok (.iload_n 3, 1) := mlok_13 (947, .iload_n 3, 1) (List.mem_of_getElem? (i := 23) rfl)
theorem dl_948 : decode code 948 = .ok (.iconst 1, 1) := mlok_13 (948, .iconst 1, 1) (List.mem_of_getElem? (i := 24) rfl)
theorem dl_949 : decode code 949 = .ok (.iadd, 1) := mlok_13 (949, .iadd, 1) (List.mem_of_getElem? (i := 25) rfl)
theorem dl_950 : decode code 950 = .ok (.iaload, 1) := mlok_13 (950, .iaload, 1) (List.mem_of_getElem? (i := 26) rfl)
theorem dl_951 : decode code 951 = .ok (.aload_n 0, 1) := mlok_13 (951, .aload_n 0, 1) (List.mem_of_getElem? (i := 27) rfl)
theorem dl_952 : decode code 952 = .ok (.iload_n 3, 1) := mlok_13 (952, .iload_n 3, 1) (List.mem_of_getElem? (i := 28) rfl)
theorem dl_953 : decode code 953 = .ok (.iconst 2, 1) := mlok_13 (953, .iconst 2, 1) (List.mem_of_getElem? (i := 29) rfl)
theorem dl_954 : decode code 954 = .ok (.iadd, 1) := mlok_13 (954, .iadd, 1) (List.mem_of_getElem? (i := 30) rfl)
theorem dl_955 : decode code 955 = .ok (.iaload, 1) := mlok_13 (955, .iaload, 1) (List.mem_of_getElem? (i := 31) rfl)
theorem dl_956 : decode code 956 = .ok (.aload_n 0, 1) := mlok_13 (956, .aload_n 0, 1) (List.mem_of_getElem? (i := 32) rfl)
theorem dl_957 : decode code 957 = .ok (.iload_n 3, 1) := mlok_13 (957, .iload_n 3, 1) (List.mem_of_getElem? (i := 33) rfl)
theorem dl_958 : decode code 958 = .ok (.iconst 3, 1) := mlok_13 (958, .iconst 3, 1) (List.mem_of_getElem? (i := 34) rfl)
theorem dl_959 : decode code 959 = .ok (.iadd, 1) := mlok_13 (959, .iadd, 1) (List.mem_of_getElem? (i := 35) rfl)
theorem dl_960 : decode code 960 = .ok (.iaload, 1) := mlok_13 (960, .iaload, 1) (List.mem_of_getElem? (i := 36) rfl)
theorem dl_961 : decode code 961 = .ok (.aload_n 0, 1) := mlok_13 (961, .aload_n 0, 1) (List.mem_of_getElem? (i := 37) rfl)
theorem dl_962 : decode code 962 = .ok (.iload_n 3, 1) := mlok_13 (962, .iload_n 3, 1) (List.mem_of_getElem? (i := 38) rfl)
theorem dl_963 : decode code 963 = .ok (.iconst 4, 1) := mlok_13 (963, .iconst 4, 1) (List.mem_of_getElem? (i := 39) rfl)
theorem dl_964 : decode code 964 = .ok (.iadd, 1) := mlok_13 (964, .iadd, 1) (List.mem_of_getElem? (i := 40) rfl)
theorem dl_965 : decode code 965 = .ok (.iaload, 1) := mlok_13 (965, .iaload, 1) (List.mem_of_getElem? (i := 41) rfl)
theorem dl_966 : decode code 966 = .ok (.aload_n 0, 1) := mlok_13 (966, .aload_n 0, 1) (List.mem_of_getElem? (i := 42) rfl)
theorem dl_967 : decode code 967 = .ok (.iload_n 3, 1) := mlok_13 (967, .iload_n 3, 1) (List.mem_of_getElem? (i := 43) rfl)
theorem dl_968 : decode code 968 = .ok (.iconst 5, 1) := mlok_13 (968, .iconst 5, 1) (List.mem_of_getElem? (i := 44) rfl)
theorem dl_969 : decode code 969 = .ok (.iadd, 1) := mlok_13 (969, .iadd, 1) (List.mem_of_getElem? (i := 45) rfl)
theorem dl_970 : decode code 970 = .ok (.iaload, 1) := mlok_13 (970, .iaload, 1) (List.mem_of_getElem? (i := 46) rfl)
theorem dl_971 : decode code 971 = .ok (.aload_n 0, 1) := mlok_13 (971, .aload_n 0, 1) (List.mem_of_getElem? (i := 47) rfl)
theorem dl_972 : decode code 972 = .ok (.iload_n 3, 1) := mlok_13 (972, .iload_n 3, 1) (List.mem_of_getElem? (i := 48) rfl)
theorem dl_973 : decode code 973 = .ok (.bipush 6, 2) := mlok_13 (973, .bipush 6, 2) (List.mem_of_getElem? (i := 49) rfl)
theorem dl_975 : decode code 975 = .ok (.iadd, 1) := mlok_14 (975, .iadd, 1) (List.mem_of_getElem? (i := 0) rfl)
theorem dl_976 : decode code 976 = .ok (.iaload, 1) := mlok_14 (976, .iaload, 1) (List.mem_of_getElem? (i := 1) rfl)
theorem dl_977 : decode code 977 = .ok (.aload_n 0, 1) := mlok_14 (977, .aload_n 0, 1) (List.mem_of_getElem? (i := 2) rfl)
theorem dl_978 : decode code 978 = .ok (.iload_n 3, 1) := mlok_14 (978, .iload_n 3, 1) (List.mem_of_getElem? (i := 3) rfl)
theorem dl_979 : decode code 979 = .ok (.bipush 7, 2) := mlok_14 (979, .bipush 7, 2) (List.mem_of_getElem? (i := 4) rfl)
theorem dl_981 : decode code 981 = .ok (.iadd, 1) := mlok_14 (981, .iadd, 1) (List.mem_of_getElem? (i := 5) rfl)
theorem dl_982 : decode code 982 = .ok (.iaload, 1) := mlok_14 (982, .iaload, 1) (List.mem_of_getElem? (i := 6) rfl)
theorem dl_983 : decode code 983 = .ok (.ifCond .eq 7, 3) := mlok_14 (983, .ifCond .eq 7, 3) (List.mem_of_getElem? (i := 7) rfl)
theorem dl_986 : decode code 986 = .ok (.iconst 1, 1) := mlok_14 (986, .iconst 1, 1) (List.mem_of_getElem? (i := 8) rfl)
theorem dl_987 : decode code 987 = .ok (.goto 4, 3) := mlok_14 (987, .goto 4, 3) (List.mem_of_getElem? (i := 9) rfl)
theorem dl_990 : decode code 990 = .ok (.iconst 0, 1) := mlok_14 (990, .iconst 0, 1) (List.mem_of_getElem? (i := 10) rfl)
theorem dl_991 : decode code 991 = .ok (.invokevirtual 87, 3) := mlok_14 (991, .invokevirtual 87, 3) (List.mem_of_getElem? (i := 11) rfl)
theorem dl_994 : decode code 994 = .ok (.aload_n 2, 1) := mlok_14 (994, .aload_n 2, 1) (List.mem_of_getElem? (i := 12) rfl)
theorem dl_995 : decode code 995 = .ok (.aload_n 0, 1) := mlok_14 (995, .aload_n 0, 1) (List.mem_of_getElem? (i := 13) rfl)
theorem dl_996 : decode code 996 = .ok (.iload_n 3, 1) := mlok_14 (996, .iload_n 3, 1) (List.mem_of_getElem? (i := 14) rfl)
theorem dl_997 : decode code 997 = .ok (.iconst 1, 1) := mlok_14 (997, .iconst 1, 1) (List.mem_of_getElem? (i := 15) rfl)
theorem dl_998 : decode code 998 = .ok (.iadd, 1) := mlok_14 (998, .iadd, 1) (List.mem_of_getElem? (i := 16) rfl)
theorem dl_999 : decode code 999 = .ok (.iaload, 1) := mlok_14 (999, .iaload, 1) (List.mem_of_getElem? (i := 17) rfl)
theorem dl_1000 : decode code 1000 = .ok (.aload_n 0, 1) := mlok_14 (1000, .aload_n 0, 1) (List.mem_of_getElem? (i := 18) rfl)
theorem dl_1001 : decode code 1001 = .ok (.iload_n 3, 1) := mlok_14 (1001, .iload_n 3, 1) (List.mem_of_getElem? (i := 19) rfl)
theorem dl_1002 : decode code 1002 = .ok (.iconst 2, 1) := mlok_14 (1002, .iconst 2, 1) (List.mem_of_getElem? (i := 20) rfl)
theorem dl_1003 : decode code 1003 = .ok (.iadd, 1) := mlok_14 (1003, .iadd, 1) (List.mem_of_getElem? (i := 21) rfl)
theorem dl_1004 : decode code 1004 = .ok (.iaload, 1) := mlok_14 (1004, .iaload, 1) (List.mem_of_getElem? (i := 22) rfl)
theorem dl_1005 : decode code 1005 = .ok (.aload_n 0, 1) := mlok_14 (1005, .aload_n 0, 1) (List.mem_of_getElem? (i := 23) rfl)
theorem dl_1006 : decode code 1006 = .ok (.iload_n 3, 1) := mlok_14 (1006, .iload_n 3, 1) (List.mem_of_getElem? (i := 24) rfl)
theorem dl_1007 : decode code 1007 = .ok (.iconst 3, 1) := mlok_14 (1007, .iconst 3, 1) (List.mem_of_getElem? (i := 25) rfl)
theorem dl_1008 : decode code 1008 = .ok (.iadd, 1) := mlok_14 (1008, .iadd, 1) (List.mem_of_getElem? (i := 26) rfl)
theorem dl_1009 : decode code 1009 = .ok (.iaload, 1) := mlok_14 (1009, .iaload, 1) (List.mem_of_getElem? (i := 27) rfl)
theorem dl_1010 : decode code 1010 = .ok (.aload_n 0, 1) := mlok_14 (1010, .aload_n 0, 1) (List.mem_of_getElem? (i := 28) rfl)
theorem dl_1011 : decode code 1011 = .ok (.iload_n 3, 1) := mlok_14 (1011, .iload_n 3, 1) (List.mem_of_getElem? (i := 29) rfl)
theorem dl_1012 : decode code 1012 = .ok (.iconst 4, 1) := mlok_14 (1012, .iconst 4, 1) (List.mem_of_getElem? (i := 30) rfl)
theorem dl_1013 : decode code 1013 = .ok (.iadd, 1) := mlok_14 (1013, .iadd, 1) (List.mem_of_getElem? (i := 31) rfl)
theorem dl_1014 : decode code 1014 = .ok (.iaload, 1) := mlok_14 (1014, .iaload, 1) (List.mem_of_getElem? (i := 32) rfl)
theorem dl_1015 : decode code 1015 = .ok (.aload_n 0, 1) := mlok_14 (1015, .aload_n 0, 1) (List.mem_of_getElem? (i := 33) rfl)
theorem dl_1016 : decode code 1016 = .ok (.iload_n 3, 1) := mlok_14 (1016, .iload_n 3, 1) (List.mem_of_getElem? (i := 34) rfl)
theorem dl_1017 : decode code 1017 = .ok (.iconst 5, 1) := mlok_14 (1017, .iconst 5, 1) (List.mem_of_getElem? (i := 35) rfl)
theorem dl_1018 : decode code 1018 = .ok (.iadd, 1) := mlok_14 (1018, .iadd, 1) (List.mem_of_getElem? (i := 36) rfl)
theorem dl_1019 : decode code 1019 = .ok (.iaload, 1) := mlok_14 (1019, .iaload, 1) (List.mem_of_getElem? (i := 37) rfl)
theorem dl_1020 : decode code 1020 = .ok (.aload_n 0, 1) := mlok_14 (1020, .aload_n 0, 1) (List.mem_of_getElem? (i := 38) rfl)
theorem dl_1021 : decode code 1021 = .ok (.iload_n 3, 1) := mlok_14 (1021, .iload_n 3, 1) (List.mem_of_getElem? (i := 39) rfl)
theorem dl_1022 : decode code 1022 = .ok (.bipush 6, 2) := mlok_14 (1022, .bipush 6, 2) (List.mem_of_getElem? (i := 40) rfl)
theorem dl_1024 : decode code 1024 = .ok (.iadd, 1) := mlok_14 (1024, .iadd, 1) (List.mem_of_getElem? (i := 41) rfl)
theorem dl_1025 : decode code 1025 = .ok (.iaload, 1) := mlok_14 (1025, .iaload, 1) (List.mem_of_getElem? (i := 42) rfl)
theorem dl_1026 : decode code 1026 = .ok (.aload_n 0, 1) := mlok_14 (1026, .aload_n 0, 1) (List.mem_of_getElem? (i := 43) rfl)
theorem dl_1027 : decode code 1027 = .ok (.iload_n 3, 1) := mlok_14 (1027, .iload_n 3, 1) (List.mem_of_getElem? (i := 44) rfl)
theorem dl_1028 : decode code 1028 = .ok (.bipush 7, 2) := mlok_14 (1028, .bipush 7, 2) (List.mem_of_getElem? (i := 45) rfl)
theorem dl_1030 : decode code 1030 = .ok (.iadd, 1) := mlok_14 (1030, .iadd, 1) (List.mem_of_getElem? (i := 46) rfl)
theorem dl_1031 : decode code 1031 = .ok (.iaload, 1) := mlok_14 (1031, .iaload, 1) (List.mem_of_getElem? (i := 47) rfl)
theorem dl_1032 : decode code 1032 = .ok (.ifCond .eq 7, 3) := mlok_14 (1032, .ifCond .eq 7, 3) (List.mem_of_getElem? (i := 48) rfl)
theorem dl_1035 : decode code 1035 = .ok (.iconst 1, 1) := mlok_14 (1035, .iconst 1, 1) (List.mem_of_getElem? (i := 49) rfl)
theorem dl_1036 : decode code 1036 = .ok (.goto 4, 3) := mlok_15 (1036, .goto 4, 3) (List.mem_of_getElem? (i := 0) rfl)
theorem dl_1039 : decode code 1039 = .ok (.iconst 0, 1) := mlok_15 (1039, .iconst 0, 1) (List.mem_of_getElem? (i := 1) rfl)
theorem dl_1040 : decode code 1040 = .ok (.invokevirtual 91, 3) := mlok_15 (1040, .invokevirtual 91, 3) (List.mem_of_getElem? (i := 2) rfl)
theorem dl_1043 : decode code 1043 = .ok (.if_icmp .eq 873, 3) := mlok_15 (1043, .if_icmp .eq 873, 3) (List.mem_of_getElem? (i := 3) rfl)
theorem dl_1046 : decode code 1046 = .ok (.iconst 0, 1) := mlok_15 (1046, .iconst 0, 1) (List.mem_of_getElem? (i := 4) rfl)
theorem dl_1047 : decode code 1047 = .ok (.ireturn, 1) := mlok_15 (1047, .ireturn, 1) (List.mem_of_getElem? (i := 5) rfl)
theorem dl_1048 : decode code 1048 = .ok (.aload_n 1, 1) := mlok_15 (1048, .aload_n 1, 1) (List.mem_of_getElem? (i := 6) rfl)
theorem dl_1049 : decode code 1049 = .ok (.aload_n 0, 1) := mlok_15 (1049, .aload_n 0, 1) (List.mem_of_getElem? (i := 7) rfl)
theorem dl_1050 : decode code 1050 = .ok (.iload_n 3, 1) := mlok_15 (1050, .iload_n 3, 1) (List.mem_of_getElem? (i := 8) rfl)
theorem dl_1051 : decode code 1051 = .ok (.iconst 1, 1) := mlok_15 (1051, .iconst 1, 1) (List.mem_of_getElem? (i := 9) rfl)
theorem dl_1052 : decode code 1052 = .ok (.iadd, 1) := mlok_15 (1052, .iadd, 1) (List.mem_of_getElem? (i := 10) rfl)
theorem dl_1053 : decode code 1053 = .ok (.iaload, 1) := mlok_15 (1053, .iaload, 1) (List.mem_of_getElem? (i := 11) rfl)
theorem dl_1054 : decode code 1054 = .ok (.aload_n 0, 1) := mlok_15 (1054, .aload_n 0, 1) (List.mem_of_getElem? (i := 12) rfl)
theorem dl_1055 : decode code 1055 = .ok (.iload_n 3, 1) := mlok_15 (1055, .iload_n 3, 1) (List.mem_of_getElem? (i := 13) rfl)
theorem dl_1056 : decode code 1056 = .ok (.iconst 2, 1) := mlok_15 (1056, .iconst 2, 1) (List.mem_of_getElem? (i := 14) rfl)
theorem dl_1057 : decode code 1057 = .ok (.iadd, 1) := mlok_15 (1057, .iadd, 1) (List.mem_of_getElem? (i := 15) rfl)
theorem dl_1058 : decode code 1058 = .ok (.iaload, 1) := mlok_15 (1058, .iaload, 1) (List.mem_of_getElem? (i := 16) rfl)
theorem dl_1059 : decode code 1059 = .ok (.invokevirtual 92, 3) := mlok_15 (1059, .invokevirtual 92, 3) (List.mem_of_getElem? (i := 17) rfl)
theorem dl_1062 : decode code 1062 = .ok (.aload_n 2, 1) := mlok_15 (1062, .aload_n 2, 1) (List.mem_of_getElem? (i := 18) rfl)
theorem dl_1063 : decode code 1063 = .ok (.aload_n 0, 1) := mlok_15 (1063, .aload_n 0, 1) (List.mem_of_getElem? (i := 19) rfl)
theorem dl_1064 : decode code 1064 = .ok (.iload_n 3, 1) := mlok_15 (1064, .iload_n 3, 1) (List.mem_of_getElem? (i := 20) rfl)
theorem dl_1065 : decode code 1065 = .ok (.iconst 1, 1) := mlok_15 (1065, .iconst 1, 1) (List.mem_of_getElem? (i := 21) rfl)
theorem dl_1066 : decode code 1066 = .ok (.iadd, 1) := mlok_15 (1066, .iadd, 1) (List.mem_of_getElem? (i := 22) rfl)
theorem dl_1067 : decode code 1067 = .ok (.iaload, 1) := mlok_15 (1067, .iaload, 1) (List.mem_of_getElem? (i := 23) rfl)
theorem dl_1068 : decode code 1068 = .ok (.aload_n 0, 1) := mlok_15 (1068, .aload_n 0, 1) (List.mem_of_getElem? (i := 24) rfl)
theorem dl_1069 : decode code 1069 = .ok (.iload_n 3, 1) := mlok_15 (1069, .iload_n 3, 1) (List.mem_of_getElem? (i := 25) rfl)
theorem dl_1070 : decode code 1070 = .ok (.iconst 2, 1) := mlok_15 (1070, .iconst 2, 1) (List.mem_of_getElem? (i := 26) rfl)
theorem dl_1071 : decode code 1071 = .ok (.iadd, 1) := mlok_15 (1071, .iadd, 1) (List.mem_of_getElem? (i := 27) rfl)
theorem dl_1072 : decode code 1072 = .ok (.iaload, 1) := mlok_15 (1072, .iaload, 1) (List.mem_of_getElem? (i := 28) rfl)
theorem dl_1073 : decode code 1073 = .ok (.invokevirtual 95, 3) := mlok_15 (1073, .invokevirtual 95, 3) (List.mem_of_getElem? (i := 29) rfl)
theorem dl_1076 : decode code 1076 = .ok (.if_icmp .eq 840, 3) := mlok_15 (1076, .if_icmp .eq 840, 3) (List.mem_of_getElem? (i := 30) rfl)
theorem dl_1079 : decode code 1079 = .ok (.iconst 0, 1) := mlok_15 (1079, .iconst 0, 1) (List.mem_of_getElem? (i := 31) rfl)
theorem dl_1080 : decode code 1080 = .ok (.ireturn, 1) := mlok_15 (1080, .ireturn, 1) (List.mem_of_getElem? (i := 32) rfl)
theorem dl_1081 : decode code 1081 = .ok (.aload_n 1, 1) := mlok_15 (1081, .aload_n 1, 1) (List.mem_of_getElem? (i := 33) rfl)
theorem dl_1082 : decode code 1082 = .ok (.aload_n 0, 1) := mlok_15 (1082, .aload_n 0, 1) (List.mem_of_getElem? (i := 34) rfl)
theorem dl_1083 : decode code 1083 = .ok (.iload_n 3, 1) := mlok_15 (1083, .iload_n 3, 1) (List.mem_of_getElem? (i := 35) rfl)
theorem dl_1084 : decode code 1084 = .ok (.iconst 1, 1) := mlok_15 (1084, .iconst 1, 1) (List.mem_of_getElem? (i := 36) rfl)
theorem dl_1085 : decode code 1085 = .ok (.iadd, 1) := mlok_15 (1085, .iadd, 1) (List.mem_of_getElem? (i := 37) rfl)
theorem dl_1086 : decode code 1086 = .ok (.iaload, 1) := mlok_15 (1086, .iaload, 1) (List.mem_of_getElem? (i := 38) rfl)
theorem dl_1087 : decode code 1087 = .ok (.aload_n 0, 1) := mlok_15 (1087, .aload_n 0, 1) (List.mem_of_getElem? (i := 39) rfl)
theorem dl_1088 : decode code 1088 = .ok (.iload_n 3, 1) := mlok_15 (1088, .iload_n 3, 1) (List.mem_of_getElem? (i := 40) rfl)
theorem dl_1089 : decode code 1089 = .ok (.iconst 2, 1) := mlok_15 (1089, .iconst 2, 1) (List.mem_of_getElem? (i := 41) rfl)
theorem dl_1090 : decode code 1090 = .ok (.iadd, 1) := mlok_15 (1090, .iadd, 1) (List.mem_of_getElem? (i := 42) rfl)
theorem dl_1091 : decode code 1091 = .ok (.iaload, 1) := mlok_15 (1091, .iaload, 1) (List.mem_of_getElem? (i := 43) rfl)
theorem dl_1092 : decode code 1092 = .ok (.aload_n 0, 1) := mlok_15 (1092, .aload_n 0, 1) (List.mem_of_getElem? (i := 44) rfl)
theorem dl_1093 : decode code 1093 = .ok (.iload_n 3, 1) := mlok_15 (1093, .iload_n 3, 1) (List.mem_of_getElem? (i := 45) rfl)
theorem dl_1094 : decode code 1094 = .ok (.iconst 3, 1) := mlok_15 (1094, .iconst 3, 1) (List.mem_of_getElem? (i := 46) rfl)
theorem dl_1095 : decode code 1095 = .ok (.iadd, 1) := mlok_15 (1095, .iadd, 1) (List.mem_of_getElem? (i := 47) rfl)
theorem dl_1096 : decode code 1096 = .ok (.iaload, 1) := mlok_15 (1096, .iaload, 1) (List.mem_of_getElem? (i := 48) rfl)
theorem dl_1097 : decode code 1097 = .ok (.invokevirtual 96, 3) := mlok_15 (1097, .invokevirtual 96, 3) (List.mem_of_getElem? (i := 49) rfl)
theorem dl_1100 : decode code 1100 = .ok (.aload_n 2, 1) := mlok_16 (1100, .aload_n 2, 1) (List.mem_of_getElem? (i := 0) rfl)
theorem dl_1101 : decode code 1101 = .ok (.aload_n 0, 1) := mlok_16 (1101, .aload_n 0, 1) (List.mem_of_getElem? (i := 1) rfl)
theorem dl_1102 : decode code 1102 = .ok (.iload_n 3, 1) := mlok_16 (1102, .iload_n 3, 1) (List.mem_of_getElem? (i := 2) rfl)
theorem dl_1103 : decode code 1103 = .ok (.iconst 1, 1) := mlok_16 (1103, .iconst 1, 1) (List.mem_of_getElem? (i := 3) rfl)
theorem dl_1104 : decode code 1104 = .ok (.iadd, 1) := mlok_16 (1104, .iadd, 1) (List.mem_of_getElem? (i := 4) rfl)
theorem dl_1105 : decode code 1105 = .ok (.iaload, 1) := mlok_16 (1105, .iaload, 1) (List.mem_of_getElem? (i := 5) rfl)
theorem dl_1106 : decode code 1106 = .ok (.aload_n 0, 1) := mlok_16 (1106, .aload_n 0, 1) (List.mem_of_getElem? (i := 6) rfl)
theorem dl_1107 : decode code 1107 = .ok (.iload_n 3, 1) := mlok_16 (1107, .iload_n 3, 1) (List.mem_of_getElem? (i := 7) rfl)
theorem dl_1108 : decode code 1108 = .ok (.iconst 2, 1) := mlok_16 (1108, .iconst 2, 1) (List.mem_of_getElem? (i := 8) rfl)
theorem dl_1109 : decode code 1109 = .ok (.iadd, 1) := mlok_16 (1109, .iadd, 1) (List.mem_of_getElem? (i := 9) rfl)
theorem dl_1110 : decode code 1110 = .ok (.iaload, 1) := mlok_16 (1110, .iaload, 1) (List.mem_of_getElem? (i := 10) rfl)
theorem dl_1111 : decode code 1111 = .ok (.aload_n 0, 1) := mlok_16 (1111, .aload_n 0, 1) (List.mem_of_getElem? (i := 11) rfl)
theorem dl_1112 : decode code 1112 = .ok (.iload_n 3, 1) := mlok_16 (1112, .iload_n 3, 1) (List.mem_of_getElem? (i := 12) rfl)
theorem dl_1113 : decode code 1113 = .ok (.iconst 3, 1) := mlok_16 (1113, .iconst 3, 1) (List.mem_of_getElem? (i := 13) rfl)
theorem dl_1114 : decode code 1114 = .ok (.iadd, 1) := mlok_16 (1114, .iadd, 1) (List.mem_of_getElem? (i := 14) rfl)
theorem dl_1115 : decode code 1115 = .ok (.iaload, 1) := mlok_16 (1115, .iaload, 1) (List.mem_of_getElem? (i := 15) rfl)
theorem dl_1116 : decode code 1116 = .ok (.invokevirtual 99, 3) := mlok_16 (1116, .invokevirtual 99, 3) (List.mem_of_getElem? (i := 16) rfl)
theorem dl_1119 : decode code 1119 = .ok (.if_icmp .eq 797, 3) := mlok_16 (1119, .if_icmp .eq 797, 3) (List.mem_of_getElem? (i := 17) rfl)
theorem dl_1122 : decode code 1122 = .ok (.iconst 0, 1) := mlok_16 (1122, .iconst 0, 1) (List.mem_of_getElem? (i := 18) rfl)
theorem dl_1123 : decode code 1123 = .ok (.ireturn, 1) := mlok_16 (1123, .ireturn, 1) (List.mem_of_getElem? (i := 19) rfl)
theorem dl_1124 : decode code 1124 = .ok (.aload_n 1, 1) := mlok_16 (1124, .aload_n 1, 1) (List.mem_of_getElem? (i := 20) rfl)
theorem dl_1125 : decode code 1125 = .ok (.aload_n 0, 1) := mlok_16 (1125, .aload_n 0, 1) (List.mem_of_getElem? (i := 21) rfl)
theorem dl_1126 : decode code 1126 = .ok (.iload_n 3, 1) := mlok_16 (1126, .iload_n 3, 1) (List.mem_of_getElem? (i := 22) rfl)
theorem dl_1127 : decode code 1127 = .ok (.iconst 1, 1) := mlok_16 (1127, .iconst 1, 1) (List.mem_of_getElem? (i := 23) rfl)
theorem dl_1128 : decode code 1128 = .ok (.iadd, 1) := mlok_16 (1128, .iadd, 1) (List.mem_of_getElem? (i := 24) rfl)
theorem dl_1129 : decode code 1129 = .ok (.iaload, 1) := mlok_16 (1129, .iaload, 1) (List.mem_of_getElem? (i := 25) rfl)
theorem dl_1130 : decode code 1130 = .ok (.aload_n 0, 1) := mlok_16 (1130, .aload_n 0, 1) (List.mem_of_getElem? (i := 26) rfl)
theorem dl_1131 : decode code 1131 = .ok (.iload_n 3, 1) := mlok_16 (1131, .iload_n 3, 1) (List.mem_of_getElem? (i := 27) rfl)
theorem dl_1132 : decode code 1132 = .ok (.iconst 2, 1) := mlok_16 (1132, .iconst 2, 1) (List.mem_of_getElem? (i := 28) rfl)
theorem dl_1133 : decode code 1133 = .ok (.iadd, 1) := mlok_16 (1133, .iadd, 1) (List.mem_of_getElem? (i := 29) rfl)
theorem dl_1134 : decode code 1134 = .ok (.iaload, 1) := mlok_16 (1134, .iaload, 1) (List.mem_of_getElem? (i := 30) rfl)
theorem dl_1135 : decode code 1135 = .ok (.aload_n 0, 1) := mlok_16 (1135, .aload_n 0, 1) (List.mem_of_getElem? (i := 31) rfl)
theorem dl_1136 : decode code 1136 = .ok (.iload_n 3, 1) := mlok_16 (1136, .iload_n 3, 1) (List.mem_of_getElem? (i := 32) rfl)
theorem dl_1137 : decode code 1137 = .ok (.iconst 3, 1) := mlok_16 (1137, .iconst 3, 1) (List.mem_of_getElem? (i := 33) rfl)
theorem dl_1138 : decode code 1138 = .ok (.iadd, 1) := mlok_16 (1138, .iadd, 1) (List.mem_of_getElem? (i := 34) rfl)
theorem dl_1139 : decode code 1139 = .ok (.iaload, 1) := mlok_16 (1139, .iaload, 1) (List.mem_of_getElem? (i := 35) rfl)
theorem dl_1140 : decode code 1140 = .ok (.aload_n 0, 1) := mlok_16 (1140, .aload_n 0, 1) (List.mem_of_getElem? (i := 36) rfl)
theorem dl_1141 : decode code 1141 = .ok (.iload_n 3, 1) := mlok_16 (1141, .iload_n 3, 1) (List.mem_of_getElem? (i := 37) rfl)
theorem dl_1142 : decode code 1142 = .ok (.iconst 4, 1) := mlok_16 (1142, .iconst 4, 1) (List.mem_of_getElem? (i := 38) rfl)
theorem dl_1143 : decode code 1143 = .ok (.iadd, 1) := mlok_16 (1143, .iadd, 1) (List.mem_of_getElem? (i := 39) rfl)
theorem dl_1144 : decode code 1144 = .ok (.iaload, 1) := mlok_16 (1144, .iaload, 1) (List.mem_of_getElem? (i := 40) rfl)
theorem dl_1145 : decode code 1145 = .ok (.ifCond .eq 7, 3) := mlok_16 (1145, .ifCond .eq 7, 3) (List.mem_of_getElem? (i := 41) rfl)
theorem dl_1148 : decode code 1148 = .ok (.iconst 1, 1) := mlok_16 (1148, .iconst 1, 1) (List.mem_of_getElem? (i := 42) rfl)
theorem dl_1149 : decode code 1149 = .ok (.goto 4, 3) := mlok_16 (1149, .goto 4, 3) (List.mem_of_getElem? (i := 43) rfl)
theorem dl_1152 : decode code 1152 = .ok (.iconst 0, 1) := mlok_16 (1152, .iconst 0, 1) (List.mem_of_getElem? (i := 44) rfl)
theorem dl_1153 : decode code 1153 = .ok (.invokevirtual 100, 3) := mlok_16 (1153, .invokevirtual 100, 3) (List.mem_of_getElem? (i := 45) rfl)
theorem dl_1156 : decode code 1156 = .ok (.aload_n 2, 1) := mlok_16 (1156, .aload_n 2, 1) (List.mem_of_getElem? (i := 46) rfl)
theorem dl_1157 : decode code 1157 = .ok (.aload_n 0, 1) := mlok_16 (1157, .aload_n 0, 1) (List.mem_of_getElem? (i := 47) rfl)
theorem dl_1158 : decode code 1158 = .ok (.iload_n 3, 1) := mlok_16 (1158, .iload_n 3, 1) (List.mem_of_getElem? (i := 48) rfl)
theorem dl_1159 : decode code 1159 = .ok (.iconst 1, 1) := mlok_16 (1159, .iconst 1, 1) (List.mem_of_getElem? (i := 49) rfl)
theorem dl_1160 : decode code 1160 = .ok (.iadd, 1) := mlok_17 (1160, .iadd, 1) (List.mem_of_getElem? (i := 0) rfl)
theorem dl_1161 : decode code 1161 = .ok (.iaload, 1) := mlok_17 (1161, .iaload, 1) (List.mem_of_getElem? (i := 1) rfl)
theorem dl_1162 : decode code 1162 = .ok (.aload_n 0, 1) := mlok_17 (1162, .aload_n 0, 1) (List.mem_of_getElem? (i := 2) rfl)
theorem dl_1163 : decode code 1163 = .ok (.iload_n 3, 1) := mlok_17 (1163, .iload_n 3, 1) (List.mem_of_getElem? (i := 3) rfl)
theorem dl_1164 : decode code 1164 = .ok (.iconst 2, 1) := mlok_17 (1164, .iconst 2, 1) (List.mem_of_getElem? (i := 4) rfl)
theorem dl_1165 : decode code 1165 = .ok (.iadd, 1) := mlok_17 (1165, .iadd, 1) (List.mem_of_getElem? (i := 5) rfl)
theorem dl_1166 : decode code 1166 = .ok (.iaload, 1) := mlok_17 (1166, .iaload, 1) (List.mem_of_getElem? (i := 6) rfl)
theorem dl_1167 : decode code 1167 = .ok (.aload_n 0, 1) := mlok_17 (1167, .aload_n 0, 1) (List.mem_of_getElem? (i := 7) rfl)
theorem dl_1168 : decode code 1168 = .ok (.iload_n 3, 1) := mlok_17 (1168, .iload_n 3, 1) (List.mem_of_getElem? (i := 8) rfl)
theorem dl_1169 : decode code 1169 = .ok (.iconst 3, 1) := mlok_17 (1169, .iconst 3, 1) (List.mem_of_getElem? (i := 9) rfl)
theorem dl_1170 : decode code 1170 = .ok (.iadd, 1) := mlok_17 (1170, .iadd, 1) (List.mem_of_getElem? (i := 10) rfl)
theorem dl_1171 : decode code 1171 = .ok (.iaload, 1) := mlok_17 (1171, .iaload, 1) (List.mem_of_getElem? (i := 11) rfl)
theorem dl_1172 : decode code 1172 = .ok (.aload_n 0, 1) := mlok_17 (1172, .aload_n 0, 1) (List.mem_of_getElem? (i := 12) rfl)
theorem dl_1173 : decode code 1173 = .ok (.iload_n 3, 1) := mlok_17 (1173, .iload_n 3, 1) (List.mem_of_getElem? (i := 13) rfl)
theorem dl_1174 : decode code 1174 = .ok (.iconst 4, 1) := mlok_17 (1174, .iconst 4, 1) (List.mem_of_getElem? (i := 14) rfl)
theorem dl_1175 : decode code 1175 = .ok (.iadd, 1) := mlok_17 (1175, .iadd, 1) (List.mem_of_getElem? (i := 15) rfl)
theorem dl_1176 : decode code 1176 = .ok (.iaload, 1) := mlok_17 (1176, .iaload, 1) (List.mem_of_getElem? (i := 16) rfl)
theorem dl_1177 : decode code 1177 = .ok (.ifCond .eq 7, 3) := mlok_17 (1177, .ifCond .eq 7, 3) (List.mem_of_getElem? (i := 17) rfl)
theorem dl_1180 : decode code 1180 = .ok (.iconst 1, 1) := mlok_17 (1180, .iconst 1, 1) (List.mem_of_getElem? (i := 18) rfl)
theorem dl_1181 : decode code 1181 = .ok (.goto 4, 3) := mlok_17 (1181, .goto 4, 3) (List.mem_of_getElem? (i := 19) rfl)
theorem dl_1184 : decode code 1184 = .ok (.iconst 0, 1) := mlok_17 (1184, .iconst 0, 1) (List.mem_of_getElem? (i := 20) rfl)
theorem dl_1185 : decode code 1185 = .ok (.invokevirtual 104, 3) := mlok_17 (1185, .invokevirtual 104, 3) (List.mem_of_getElem? (i := 21) rfl)
theorem dl_1188 : decode code 1188 = .ok (.lcmp, 1) := mlok_17 (1188, .lcmp, 1) (List.mem_of_getElem? (i := 22) rfl)
theorem dl_1189 : decode code 1189 = .ok (.ifCond .eq 727, 3) := mlok_17 (1189, .ifCond .eq 727, 3) (List.mem_of_getElem? (i := 23) rfl)
theorem dl_1192 : decode code 1192 = .ok (.iconst 0, 1) := mlok_17 (1192, .iconst 0, 1) (List.mem_of_getElem? (i := 24) rfl)
theorem dl_1193 : decode code 1193 = .ok (.ireturn, 1) := mlok_17 (1193, .ireturn, 1) (List.mem_of_getElem? (i := 25) rfl)
theorem dl_1194 : decode code 1194 = .ok (.aload_n 1, 1) := mlok_17 (1194, .aload_n 1, 1) (List.mem_of_getElem? (i := 26) rfl)
theorem dl_1195 : decode code 1195 = .ok (.aload_n 0, 1) := mlok_17 (1195, .aload_n 0, 1) (List.mem_of_getElem? (i := 27) rfl)
theorem dl_1196 : decode code 1196 = .ok (.iload_n 3, 1) := mlok_17 (1196, .iload_n 3, 1) (List.mem_of_getElem? (i := 28) rfl)
theorem dl_1197 : decode code 1197 = .ok (.iconst 1, 1) := mlok_17 (1197, .iconst 1, 1) (List.mem_of_getElem? (i := 29) rfl)
theorem dl_1198 : decode code 1198 = .ok (.iadd, 1) := mlok_17 (1198, .iadd, 1) (List.mem_of_getElem? (i := 30) rfl)
theorem dl_1199 : decode code 1199 = .ok (.iaload, 1) := mlok_17 (1199, .iaload, 1) (List.mem_of_getElem? (i := 31) rfl)
theorem dl_1200 : decode code 1200 = .ok (.aload_n 0, 1) := mlok_17 (1200, .aload_n 0, 1) (List.mem_of_getElem? (i := 32) rfl)
theorem dl_1201 : decode code 1201 = .ok (.iload_n 3, 1) := mlok_17 (1201, .iload_n 3, 1) (List.mem_of_getElem? (i := 33) rfl)
theorem dl_1202 : decode code 1202 = .ok (.iconst 2, 1) := mlok_17 (1202, .iconst 2, 1) (List.mem_of_getElem? (i := 34) rfl)
theorem dl_1203 : decode code 1203 = .ok (.iadd, 1) := mlok_17 (1203, .iadd, 1) (List.mem_of_getElem? (i := 35) rfl)
theorem dl_1204 : decode code 1204 = .ok (.iaload, 1) := mlok_17 (1204, .iaload, 1) (List.mem_of_getElem? (i := 36) rfl)
theorem dl_1205 : decode code 1205 = .ok (.aload_n 0, 1) := mlok_17 (1205, .aload_n 0, 1) (List.mem_of_getElem? (i := 37) rfl)
theorem dl_1206 : decode code 1206 = .ok (.iload_n 3, 1) := mlok_17 (1206, .iload_n 3, 1) (List.mem_of_getElem? (i := 38) rfl)
theorem dl_1207 : decode code 1207 = .ok (.iconst 3, 1) := mlok_17 (1207, .iconst 3, 1) (List.mem_of_getElem? (i := 39) rfl)
theorem dl_1208 : decode code 1208 = .ok (.iadd, 1) := mlok_17 (1208, .iadd, 1) (List.mem_of_getElem? (i := 40) rfl)
theorem dl_1209 : decode code 1209 = .ok (.iaload, 1) := mlok_17 (1209, .iaload, 1) (List.mem_of_getElem? (i := 41) rfl)
theorem dl_1210 : decode code 1210 = .ok (.aload_n 0, 1) := mlok_17 (1210, .aload_n 0, 1) (List.mem_of_getElem? (i := 42) rfl)
theorem dl_1211 : decode code 1211 = .ok (.iload_n 3, 1) := mlok_17 (1211, .iload_n 3, 1) (List.mem_of_getElem? (i := 43) rfl)
theorem dl_1212 : decode code 1212 = .ok (.iconst 4, 1) := mlok_17 (1212, .iconst 4, 1) (List.mem_of_getElem? (i := 44) rfl)
theorem dl_1213 : decode code 1213 = .ok (.iadd, 1) := mlok_17 (1213, .iadd, 1) (List.mem_of_getElem? (i := 45) rfl)
theorem dl_1214 : decode code 1214 = .ok (.iaload, 1) := mlok_17 (1214, .iaload, 1) (List.mem_of_getElem? (i := 46) rfl)
theorem dl_1215 : decode code 1215 = .ok (.invokevirtual 105, 3) := mlok_17 (1215, .invokevirtual 105, 3) (List.mem_of_getElem? (i := 47) rfl)
theorem dl_1218 : decode code 1218 = .ok (.aload_n 2, 1) := mlok_17 (1218, .aload_n 2, 1) (List.mem_of_getElem? (i := 48) rfl)
theorem dl_1219 : decode code 1219 = .ok (.aload_n 0, 1) := mlok_17 (1219, .aload_n 0, 1) (List.mem_of_getElem? (i := 49) rfl)
theorem dl_1220 : decode code 1220 = .ok (.iload_n 3, 1) := mlok_18 (1220, .iload_n 3, 1) (List.mem_of_getElem? (i := 0) rfl)
theorem dl_1221 : decode code 1221 = .ok (.iconst 1, 1) := mlok_18 (1221, .iconst 1, 1) (List.mem_of_getElem? (i := 1) rfl)
theorem dl_1222 : decode code 1222 = .ok (.iadd, 1) := mlok_18 (1222, .iadd, 1) (List.mem_of_getElem? (i := 2) rfl)
theorem dl_1223 : decode code 1223 = .ok (.iaload, 1) := mlok_18 (1223, .iaload, 1) (List.mem_of_getElem? (i := 3) rfl)
theorem dl_1224 : decode code 1224 = .ok (.aload_n 0, 1) := mlok_18 (1224, .aload_n 0, 1) (List.mem_of_getElem? (i := 4) rfl)
theorem dl_1225 : decode code 1225 = .ok (.iload_n 3, 1) := mlok_18 (1225, .iload_n 3, 1) (List.mem_of_getElem? (i := 5) rfl)
theorem dl_1226 : decode code 1226 = .ok (.iconst 2, 1) := mlok_18 (1226, .iconst 2, 1) (List.mem_of_getElem? (i := 6) rfl)
theorem dl_1227 : decode code 1227 = .ok (.iadd, 1) := mlok_18 (1227, .iadd, 1) (List.mem_of_getElem? (i := 7) rfl)
theorem dl_1228 : decode code 1228 = .ok (.iaload, 1) := mlok_18 (1228, .iaload, 1) (List.mem_of_getElem? (i := 8) rfl)
theorem dl_1229 : decode code 1229 = .ok (.aload_n 0, 1) := mlok_18 (1229, .aload_n 0, 1) (List.mem_of_getElem? (i := 9) rfl)
theorem dl_1230 : decode code 1230 = .ok (.iload_n 3, 1) := mlok_18 (1230, .iload_n 3, 1) (List.mem_of_getElem? (i := 10) rfl)
theorem dl_1231 : decode code 1231 = .ok (.iconst 3, 1) := mlok_18 (1231, .iconst 3, 1) (List.mem_of_getElem? (i := 11) rfl)
theorem dl_1232 : decode code 1232 = .ok (.iadd, 1) := mlok_18 (1232, .iadd, 1) (List.mem_of_getElem? (i := 12) rfl)
theorem dl_1233 : decode code 1233 = .ok (.iaload, 1) := mlok_18 (1233, .iaload, 1) (List.mem_of_getElem? (i := 13) rfl)
theorem dl_1234 : decode code 1234 = .ok (.aload_n 0, 1) := mlok_18 (1234, .aload_n 0, 1) (List.mem_of_getElem? (i := 14) rfl)
theorem dl_1235 : decode code 1235 = .ok (.iload_n 3, 1) := mlok_18 (1235, .iload_n 3, 1) (List.mem_of_getElem? (i := 15) rfl)
theorem dl_1236 : decode code 1236 = .ok (.iconst 4, 1) := mlok_18 (1236, .iconst 4, 1) (List.mem_of_getElem? (i := 16) rfl)
theorem dl_1237 : decode code 1237 = .ok (.iadd, 1) := mlok_18 (1237, .iadd, 1) (List.mem_of_getElem? (i := 17) rfl)
theorem dl_1238 : decode code 1238 = .ok (.iaload, 1) := mlok_18 (1238, .iaload, 1) (List.mem_of_getElem? (i := 18) rfl)
theorem dl_1239 : decode code 1239 = .ok (.invokevirtual 108, 3) := mlok_18 (1239, .invokevirtual 108, 3) (List.mem_of_getElem? (i := 19) rfl)
theorem dl_1242 : decode code 1242 = .ok (.if_icmp .eq 674, 3) := mlok_18 (1242, .if_icmp .eq 674, 3) (List.mem_of_getElem? (i := 20) rfl)
theorem dl_1245 : decode code 1245 = .ok (.iconst 0, 1) := mlok_18 (1245, .iconst 0, 1) (List.mem_of_getElem? (i := 21) rfl)
theorem dl_1246 : decode code 1246 = .ok (.ireturn, 1) := mlok_18 (1246, .ireturn, 1) (List.mem_of_getElem? (i := 22) rfl)
theorem dl_1247 : decode code 1247 = .ok (.aload_n 1, 1) := mlok_18 (1247, .aload_n 1, 1) (List.mem_of_getElem? (i := 23) rfl)
theorem dl_1248 : decode code 1248 = .ok (.aload_n 0, 1) := mlok_18 (1248, .aload_n 0, 1) (List.mem_of_getElem? (i := 24) rfl)
theorem dl_1249 : decode code 1249 = .ok (.iload_n 3, 1) := mlok_18 (1249, .iload_n 3, 1) (List.mem_of_getElem? (i := 25) rfl)
theorem dl_1250 : decode code 1250 = .ok (.iconst 1, 1) := mlok_18 (1250, .iconst 1, 1) (List.mem_of_getElem? (i := 26) rfl)
theorem dl_1251 : decode code 1251 = .ok (.iadd, 1) := mlok_18 (1251, .iadd, 1) (List.mem_of_getElem? (i := 27) rfl)
theorem dl_1252 : decode code 1252 = .ok (.iaload, 1) := mlok_18 (1252, .iaload, 1) (List.mem_of_getElem? (i := 28) rfl)
theorem dl_1253 : decode code 1253 = .ok (.aload_n 0, 1) := mlok_18 (1253, .aload_n 0, 1) (List.mem_of_getElem? (i := 29) rfl)
theorem dl_1254 : decode code 1254 = .ok (.iload_n 3, 1) := mlok_18 (1254, .iload_n 3, 1) (List.mem_of_getElem? (i := 30) rfl)
theorem dl_1255 : decode code 1255 = .ok (.iconst 2, 1) := mlok_18 (1255, .iconst 2, 1) (List.mem_of_getElem? (i := 31) rfl)
theorem dl_1256 : decode code 1256 = .ok (.iadd, 1) := mlok_18 (1256, .iadd, 1) (List.mem_of_getElem? (i := 32) rfl)
theorem dl_1257 : decode code 1257 = .ok (.iaload, 1) := mlok_18 (1257, .iaload, 1) (List.mem_of_getElem? (i := 33) rfl)
theorem dl_1258 : decode code 1258 = .ok (.aload_n 0, 1) := mlok_18 (1258, .aload_n 0, 1) (List.mem_of_getElem? (i := 34) rfl)
theorem dl_1259 : decode code 1259 = .ok (.iload_n 3, 1) := mlok_18 (1259, .iload_n 3, 1) (List.mem_of_getElem? (i := 35) rfl)
theorem dl_1260 : decode code 1260 = .ok (.iconst 3, 1) := mlok_18 (1260, .iconst 3, 1) (List.mem_of_getElem? (i := 36) rfl)
theorem dl_1261 : decode code 1261 = .ok (.iadd, 1) := mlok_18 (1261, .iadd, 1) (List.mem_of_getElem? (i := 37) rfl)
theorem dl_1262 : decode code 1262 = .ok (.iaload, 1) := mlok_18 (1262, .iaload, 1) (List.mem_of_getElem? (i := 38) rfl)
theorem dl_1263 : decode code 1263 = .ok (.aload_n 0, 1) := mlok_18 (1263, .aload_n 0, 1) (List.mem_of_getElem? (i := 39) rfl)
theorem dl_1264 : decode code 1264 = .ok (.iload_n 3, 1) := mlok_18 (1264, .iload_n 3, 1) (List.mem_of_getElem? (i := 40) rfl)
theorem dl_1265 : decode code 1265 = .ok (.iconst 4, 1) := mlok_18 (1265, .iconst 4, 1) (List.mem_of_getElem? (i := 41) rfl)
theorem dl_1266 : decode code 1266 = .ok (.iadd, 1) := mlok_18 (1266, .iadd, 1) (List.mem_of_getElem? (i := 42) rfl)
theorem dl_1267 : decode code 1267 = .ok (.iaload, 1) := mlok_18 (1267, .iaload, 1) (List.mem_of_getElem? (i := 43) rfl)
theorem dl_1268 : decode code 1268 = .ok (.aload_n 0, 1) := mlok_18 (1268, .aload_n 0, 1) (List.mem_of_getElem? (i := 44) rfl)
theorem dl_1269 : decode code 1269 = .ok (.iload_n 3, 1) := mlok_18 (1269, .iload_n 3, 1) (List.mem_of_getElem? (i := 45) rfl)
theorem dl_1270 : decode code 1270 = .ok (.iconst 5, 1) := mlok_18 (1270, .iconst 5, 1) (List.mem_of_getElem? (i := 46) rfl)
theorem dl_1271 : decode code 1271 = .ok (.iadd, 1) := mlok_18 (1271, .iadd, 1) (List.mem_of_getElem? (i := 47) rfl)
theorem dl_1272 : decode code 1272 = .ok (.iaload, 1) := mlok_18 (1272, .iaload, 1) (List.mem_of_getElem? (i := 48) rfl)
theorem dl_1273 : decode code 1273 = .ok (.ifCond .eq 7, 3) := mlok_18 (1273, .ifCond .eq 7, 3) (List.mem_of_getElem? (i := 49) rfl)
theorem dl_1276 : decode code 1276 = .ok (.iconst 1, 1) := mlok_19 (1276, .iconst 1, 1) (List.mem_of_getElem? (i := 0) rfl)
theorem dl_1277 : decode code 1277 = .ok (.goto 4, 3) := mlok_19 (1277, .goto 4, 3) (List.mem_of_getElem? (i := 1) rfl)
theorem dl_1280 : decode code 1280 = .ok (.iconst 0, 1) := mlok_19 (1280, .iconst 0, 1) (List.mem_of_getElem? (i := 2) rfl)
theorem dl_1281 : decode code 1281 = .ok (.invokevirtual 109, 3) := mlok_19 (1281, .invokevirtual 109, 3) (List.mem_of_getElem? (i := 3) rfl)
theorem dl_1284 : decode code 1284 = .ok (.aload_n 2, 1) := mlok_19 (1284, .aload_n 2, 1) (List.mem_of_getElem? (i := 4) rfl)
theorem dl_1285 : decode code 1285 = .ok (.aload_n 0, 1) := mlok_19 (1285, .aload_n 0, 1) (List.mem_of_getElem? (i := 5) rfl)
theorem dl_1286 : decode code 1286 = .ok (.iload_n 3, 1) := mlok_19 (1286, .iload_n 3, 1) (List.mem_of_getElem? (i := 6) rfl)
theorem dl_1287 : decode code 1287 = .ok (.iconst 1, 1) := mlok_19 (1287, .iconst 1, 1) (List.mem_of_getElem? (i := 7) rfl)
theorem dl_1288 : decode code 1288 = .ok (.iadd, 1) := mlok_19 (1288, .iadd, 1) (List.mem_of_getElem? (i := 8) rfl)
theorem dl_1289 : decode code 1289 = .ok (.iaload, 1) := mlok_19 (1289, .iaload, 1) (List.mem_of_getElem? (i := 9) rfl)
theorem dl_1290 : decode code 1290 = .ok (.aload_n 0, 1) := mlok_19 (1290, .aload_n 0, 1) (List.mem_of_getElem? (i := 10) rfl)
theorem dl_1291 : decode code 1291 = .ok (.iload_n 3, 1) := mlok_19 (1291, .iload_n 3, 1) (List.mem_of_getElem? (i := 11) rfl)
theorem dl_1292 : decode code 1292 = .ok (.iconst 2, 1) := mlok_19 (1292, .iconst 2, 1) (List.mem_of_getElem? (i := 12) rfl)
theorem dl_1293 : decode code 1293 = .ok (.iadd, 1) := mlok_19 (1293, .iadd, 1) (List.mem_of_getElem? (i := 13) rfl)
theorem dl_1294 : decode code 1294 = .ok (.iaload, 1) := mlok_19 (1294, .iaload, 1) (List.mem_of_getElem? (i := 14) rfl)
theorem dl_1295 : decode code 1295 = .ok (.aload_n 0, 1) := mlok_19 (1295, .aload_n 0, 1) (List.mem_of_getElem? (i := 15) rfl)
theorem dl_1296 : decode code 1296 = .ok (.iload_n 3, 1) := mlok_19 (1296, .iload_n 3, 1) (List.mem_of_getElem? (i := 16) rfl)
theorem dl_1297 : decode code 1297 = .ok (.iconst 3, 1) := mlok_19 (1297, .iconst 3, 1) (List.mem_of_getElem? (i := 17) rfl)
theorem dl_1298 : decode code 1298 = .ok (.iadd, 1) := mlok_19 (1298, .iadd, 1) (List.mem_of_getElem? (i := 18) rfl)
theorem dl_1299 : decode code 1299 = .ok (.iaload, 1) := mlok_19 (1299, .iaload, 1) (List.mem_of_getElem? (i := 19) rfl)
theorem dl_1300 : decode code 1300 = .ok (.aload_n 0, 1) := mlok_19 (1300, .aload_n 0, 1) (List.mem_of_getElem? (i := 20) rfl)
theorem dl_1301 : decode code 1301 = .ok (.iload_n 3, 1) := mlok_19 (1301, .iload_n 3, 1) (List.mem_of_getElem? (i := 21) rfl)
theorem dl_1302 : decode code 1302 = .ok (.iconst 4, 1) := mlok_19 (1302, .iconst 4, 1) (List.mem_of_getElem? (i := 22) rfl)
theorem dl_1303 : decode code 1303 = .ok (.iadd, 1) := mlok_19 (1303, .iadd, 1) (List.mem_of_getElem? (i := 23) rfl)
theorem dl_1304 : decode code 1304 = .ok (.iaload, 1) := mlok_19 (1304, .iaload, 1) (List.mem_of_getElem? (i := 24) rfl)
theorem dl_1305 : decode code 1305 = .ok (.aload_n 0, 1) := mlok_19 (1305, .aload_n 0, 1) (List.mem_of_getElem? (i := 25) rfl)
theorem dl_1306 : decode code 1306 = .ok (.iload_n 3, 1) := mlok_19 (1306, .iload_n 3, 1) (List.mem_of_getElem? (i := 26) rfl)
theorem dl_1307 : decode code 1307 = .ok (.iconst 5, 1) := mlok_19 (1307, .iconst 5, 1) (List.mem_of_getElem? (i := 27) rfl)
theorem dl_1308 : decode code 1308 = .ok (.iadd, 1) := mlok_19 (1308, .iadd, 1) (List.mem_of_getElem? (i := 28) rfl)
theorem dl_1309 : decode code 1309 = .ok (.iaload, 1) := mlok_19 (1309, .iaload, 1) (List.mem_of_getElem? (i := 29) rfl)
theorem dl_1310 : decode code 1310 = .ok (.ifCond .eq 7, 3) := mlok_19 (1310, .ifCond .eq 7, 3) (List.mem_of_getElem? (i := 30) rfl)
theorem dl_1313 : decode code 1313 = .ok (.iconst 1, 1) := mlok_19 (1313, .iconst 1, 1) (List.mem_of_getElem? (i := 31) rfl)
theorem dl_1314 : decode code 1314 = .ok (.goto 4, 3) := mlok_19 (1314, .goto 4, 3) (List.mem_of_getElem? (i := 32) rfl)
theorem dl_1317 : decode code 1317 = .ok (.iconst 0, 1) := mlok_19 (1317, .iconst 0, 1) (List.mem_of_getElem? (i := 33) rfl)
theorem dl_1318 : decode code 1318 = .ok (.invokevirtual 113, 3) := mlok_19 (1318, .invokevirtual 113, 3) (List.mem_of_getElem? (i := 34) rfl)
theorem dl_1321 : decode code 1321 = .ok (.lcmp, 1) := mlok_19 (1321, .lcmp, 1) (List.mem_of_getElem? (i := 35) rfl)
theorem dl_1322 : decode code 1322 = .ok (.ifCond .eq 594, 3) := mlok_19 (1322, .ifCond .eq 594, 3) (List.mem_of_getElem? (i := 36) rfl)
theorem dl_1325 : decode code 1325 = .ok (.iconst 0, 1) := mlok_19 (1325, .iconst 0, 1) (List.mem_of_getElem? (i := 37) rfl)
theorem dl_1326 : decode code 1326 = .ok (.ireturn, 1) := mlok_19 (1326, .ireturn, 1) (List.mem_of_getElem? (i := 38) rfl)
theorem dl_1327 : decode code 1327 = .ok (.aload_n 1, 1) := mlok_19 (1327, .aload_n 1, 1) (List.mem_of_getElem? (i := 39) rfl)
theorem dl_1328 : decode code 1328 = .ok (.aload_n 0, 1) := mlok_19 (1328, .aload_n 0, 1) (List.mem_of_getElem? (i := 40) rfl)
theorem dl_1329 : decode code 1329 = .ok (.iload_n 3, 1) := mlok_19 (1329, .iload_n 3, 1) (List.mem_of_getElem? (i := 41) rfl)
theorem dl_1330 : decode code 1330 = .ok (.iconst 1, 1) := mlok_19 (1330, .iconst 1, 1) (List.mem_of_getElem? (i := 42) rfl)
theorem dl_1331 : decode code 1331 = .ok (.iadd, 1) := mlok_19 (1331, .iadd, 1) (List.mem_of_getElem? (i := 43) rfl)
theorem dl_1332 : decode code 1332 = .ok (.iaload, 1) := mlok_19 (1332, .iaload, 1) (List.mem_of_getElem? (i := 44) rfl)
theorem dl_1333 : decode code 1333 = .ok (.aload_n 0, 1) := mlok_19 (1333, .aload_n 0, 1) (List.mem_of_getElem? (i := 45) rfl)
theorem dl_1334 : decode code 1334 = .ok (.iload_n 3, 1) := mlok_19 (1334, .iload_n 3, 1) (List.mem_of_getElem? (i := 46) rfl)
theorem dl_1335 : decode code 1335 = .ok (.iconst 2, 1) := mlok_19 (1335, .iconst 2, 1) (List.mem_of_getElem? (i := 47) rfl)
theorem dl_1336 : decode code 1336 = .ok (.iadd, 1) := mlok_19 (1336, .iadd, 1) (List.mem_of_getElem? (i := 48) rfl)
theorem dl_1337 : decode code 1337 = .ok (.iaload, 1) := mlok_19 (1337, .iaload, 1) (List.mem_of_getElem? (i := 49) rfl)
theorem dl_1338 : decode code 1338 = .ok (.aload_n 0, 1) := mlok_20 (1338, .aload_n 0, 1) (List.mem_of_getElem? (i := 0) rfl)
theorem dl_1339 : decode code 1339 = .ok (.iload_n 3, 1) := mlok_20 (1339, .iload_n 3, 1) (List.mem_of_getElem? (i := 1) rfl)
theorem dl_1340 : decode code 1340 = .ok (.iconst 3, 1) := mlok_20 (1340, .iconst 3, 1) (List.mem_of_getElem? (i := 2) rfl)
theorem dl_1341 : decode code 1341 = .ok (.iadd, 1) := mlok_20 (1341, .iadd, 1) (List.mem_of_getElem? (i := 3) rfl)
theorem dl_1342 : decode code 1342 = .ok (.iaload, 1) := mlok_20 (1342, .iaload, 1) (List.mem_of_getElem? (i := 4) rfl)
theorem dl_1343 : decode code 1343 = .ok (.aload_n 0, 1) := mlok_20 (1343, .aload_n 0, 1) (List.mem_of_getElem? (i := 5) rfl)
theorem dl_1344 : decode code 1344 = .ok (.iload_n 3, 1) := mlok_20 (1344, .iload_n 3, 1) (List.mem_of_getElem? (i := 6) rfl)
theorem dl_1345 : decode code 1345 = .ok (.iconst 4, 1) := mlok_20 (1345, .iconst 4, 1) (List.mem_of_getElem? (i := 7) rfl)
theorem dl_1346 : decode code 1346 = .ok (.iadd, 1) := mlok_20 (1346, .iadd, 1) (List.mem_of_getElem? (i := 8) rfl)
theorem dl_1347 : decode code 1347 = .ok (.iaload, 1) := mlok_20 (1347, .iaload, 1) (List.mem_of_getElem? (i := 9) rfl)
theorem dl_1348 : decode code 1348 = .ok (.ifCond .eq 7, 3) := mlok_20 (1348, .ifCond .eq 7, 3) (List.mem_of_getElem? (i := 10) rfl)
theorem dl_1351 : decode code 1351 = .ok (.iconst 1, 1) := mlok_20 (1351, .iconst 1, 1) (List.mem_of_getElem? (i := 11) rfl)
theorem dl_1352 : decode code 1352 = .ok (.goto 4, 3) := mlok_20 (1352, .goto 4, 3) (List.mem_of_getElem? (i := 12) rfl)
theorem dl_1355 : decode code 1355 = .ok (.iconst 0, 1) := mlok_20 (1355, .iconst 0, 1) (List.mem_of_getElem? (i := 13) rfl)
theorem dl_1356 : decode code 1356 = .ok (.invokevirtual 114, 3) := mlok_20 (1356, .invokevirtual 114, 3) (List.mem_of_getElem? (i := 14) rfl)
theorem dl_1359 : decode code 1359 = .ok (.aload_n 2, 1) := mlok_20 (1359, .aload_n 2, 1) (List.mem_of_getElem? (i := 15) rfl)
theorem dl_1360 : decode code 1360 = .ok (.aload_n 0, 1) := mlok_20 (1360, .aload_n 0, 1) (List.mem_of_getElem? (i := 16) rfl)
theorem dl_1361 : decode code 1361 = .ok (.iload_n 3, 1) := mlok_20 (1361, .iload_n 3, 1) (List.mem_of_getElem? (i := 17) rfl)
theorem dl_1362 : decode code 1362 = .ok (.iconst 1, 1) := mlok_20 (1362, .iconst 1, 1) (List.mem_of_getElem? (i := 18) rfl)
theorem dl_1363 : decode code 1363 = .ok (.iadd, 1) := mlok_20 (1363, .iadd, 1) (List.mem_of_getElem? (i := 19) rfl)
theorem dl_1364 : decode code 1364 = .ok (.iaload, 1) := mlok_20 (1364, .iaload, 1) (List.mem_of_getElem? (i := 20) rfl)
theorem dl_1365 : decode code 1365 = .ok (.aload_n 0, 1) := mlok_20 (1365, .aload_n 0, 1) (List.mem_of_getElem? (i := 21) rfl)
theorem dl_1366 : decode code 1366 = .ok (.iload_n 3, 1) := mlok_20 (1366, .iload_n 3, 1) (List.mem_of_getElem? (i := 22) rfl)
theorem dl_1367 : decode code 1367 = .ok (.iconst 2, 1) := mlok_20 (1367, .iconst 2, 1) (List.mem_of_getElem? (i := 23) rfl)
theorem dl_1368 : decode code 1368 = .ok (.iadd, 1) := mlok_20 (1368, .iadd, 1) (List.mem_of_getElem? (i := 24) rfl)
theorem dl_1369 : decode code 1369 = .ok (.iaload, 1) := mlok_20 (1369, .iaload, 1) (List.mem_of_getElem? (i := 25) rfl)
theorem dl_1370 : decode code 1370 = .ok (.aload_n 0, 1) := mlok_20 (1370, .aload_n 0, 1) (List.mem_of_getElem? (i := 26) rfl)
theorem dl_1371 : decode code 1371 = .ok (.iload_n 3, 1) := mlok_20 (1371, .iload_n 3, 1) (List.mem_of_getElem? (i := 27) rfl)
theorem dl_1372 : decode code 1372 = .ok (.iconst 3, 1) := mlok_20 (1372, .iconst 3, 1) (List.mem_of_getElem? (i := 28) rfl)
theorem dl_1373 : decode code 1373 = .ok (.iadd, 1) := mlok_20 (1373, .iadd, 1) (List.mem_of_getElem? (i := 29) rfl)
theorem dl_1374 : decode code 1374 = .ok (.iaload, 1) := mlok_20 (1374, .iaload, 1) (List.mem_of_getElem? (i := 30) rfl)
theorem dl_1375 : decode code 1375 = .ok (.aload_n 0, 1) := mlok_20 (1375, .aload_n 0, 1) (List.mem_of_getElem? (i := 31) rfl)
theorem dl_1376 : decode code 1376 = .ok (.iload_n 3, 1) := mlok_20 (1376, .iload_n 3, 1) (List.mem_of_getElem? (i := 32) rfl)
theorem dl_1377 : decode code 1377 = .ok (.iconst 4, 1) := mlok_20 (1377, .iconst 4, 1) (List.mem_of_getElem? (i := 33) rfl)
theorem dl_1378 : decode code 1378 = .ok (.iadd, 1) := mlok_20 (1378, .iadd, 1) (List.mem_of_getElem? (i := 34) rfl)
theorem dl_1379 : decode code 1379 = .ok (.iaload, 1) := mlok_20 (1379, .iaload, 1) (List.mem_of_getElem? (i := 35) rfl)
theorem dl_1380 : decode code 1380 = .ok (.ifCond .eq 7, 3) := mlok_20 (1380, .ifCond .eq 7, 3) (List.mem_of_getElem? (i := 36) rfl)
theorem dl_1383 : decode code 1383 = .ok (.iconst 1, 1) := mlok_20 (1383, .iconst 1, 1) (List.mem_of_getElem? (i := 37) rfl)
theorem dl_1384 : decode code 1384 = .ok (.goto 4, 3) := mlok_20 (1384, .goto 4, 3) (List.mem_of_getElem? (i := 38) rfl)
theorem dl_1387 : decode code 1387 = .ok (.iconst 0, 1) := mlok_20 (1387, .iconst 0, 1) (List.mem_of_getElem? (i := 39) rfl)
theorem dl_1388 : decode code 1388 = .ok (.invokevirtual 118, 3) := mlok_20 (1388, .invokevirtual 118, 3) (List.mem_of_getElem? (i := 40) rfl)
theorem dl_1391 : decode code 1391 = .ok (.if_icmp .eq 525, 3) := mlok_20 (1391, .if_icmp .eq 525, 3) (List.mem_of_getElem? (i := 41) rfl)
theorem dl_1394 : decode code 1394 = .ok (.iconst 0, 1) := mlok_20 (1394, .iconst 0, 1) (List.mem_of_getElem? (i := 42) rfl)
theorem dl_1395 : decode code 1395 = .ok (.ireturn, 1) := mlok_20 (1395, .ireturn, 1) (List.mem_of_getElem? (i := 43) rfl)
theorem dl_1396 : decode code 1396 = .ok (.aload_n 1, 1) := mlok_20 (1396, .aload_n 1, 1) (List.mem_of_getElem? (i := 44) rfl)
theorem dl_1397 : decode code 1397 = .ok (.aload_n 0, 1) := mlok_20 (1397, .aload_n 0, 1) (List.mem_of_getElem? (i := 45) rfl)
theorem dl_1398 : decode code 1398 = .ok (.iload_n 3, 1) := mlok_20 (1398, .iload_n 3, 1) (List.mem_of_getElem? (i := 46) rfl)
theorem dl_1399 : decode code 1399 = .ok (.iconst 1, 1) := mlok_20 (1399, .iconst 1, 1) (List.mem_of_getElem? (i := 47) rfl)
theorem dl_1400 : decode code 1400 = .ok (.iadd, 1) := mlok_20 (1400, .iadd, 1) (List.mem_of_getElem? (i := 48) rfl)
theorem dl_1401 : decode code 1401 = .ok (.iaload, 1) := mlok_20 (1401, .iaload, 1) (List.mem_of_getElem? (i := 49) rfl)
theorem dl_1402 : decode code 1402 = .ok (.aload_n 0, 1) := mlok_21 (1402, .aload_n 0, 1) (List.mem_of_getElem? (i := 0) rfl)
theorem dl_1403 : decode code 1403 = .ok (.iload_n 3, 1) := mlok_21 (1403, .iload_n 3, 1) (List.mem_of_getElem? (i := 1) rfl)
theorem dl_1404 : decode code 1404 = .ok (.iconst 2, 1) := mlok_21 (1404, .iconst 2, 1) (List.mem_of_getElem? (i := 2) rfl)
theorem dl_1405 : decode code 1405 = .ok (.iadd, 1) := mlok_21 (1405, .iadd, 1) (List.mem_of_getElem? (i := 3) rfl)
theorem dl_1406 : decode code 1406 = .ok (.iaload, 1) := mlok_21 (1406, .iaload, 1) (List.mem_of_getElem? (i := 4) rfl)
theorem dl_1407 : decode code 1407 = .ok (.aload_n 0, 1) := mlok_21 (1407, .aload_n 0, 1) (List.mem_of_getElem? (i := 5) rfl)
theorem dl_1408 : decode code 1408 = .ok (.iload_n 3, 1) := mlok_21 (1408, .iload_n 3, 1) (List.mem_of_getElem? (i := 6) rfl)
theorem dl_1409 : decode code 1409 = .ok (.iconst 3, 1) := mlok_21 (1409, .iconst 3, 1) (List.mem_of_getElem? (i := 7) rfl)
theorem dl_1410 : decode code 1410 = .ok (.iadd, 1) := mlok_21 (1410, .iadd, 1) (List.mem_of_getElem? (i := 8) rfl)
theorem dl_1411 : decode code 1411 = .ok (.iaload, 1) := mlok_21 (1411, .iaload, 1) (List.mem_of_getElem? (i := 9) rfl)
theorem dl_1412 : decode code 1412 = .ok (.aload_n 0, 1) := mlok_21 (1412, .aload_n 0, 1) (List.mem_of_getElem? (i := 10) rfl)
theorem dl_1413 : decode code 1413 = .ok (.iload_n 3, 1) := mlok_21 (1413, .iload_n 3, 1) (List.mem_of_getElem? (i := 11) rfl)
theorem dl_1414 : decode code 1414 = .ok (.iconst 4, 1) := mlok_21 (1414, .iconst 4, 1) (List.mem_of_getElem? (i := 12) rfl)
theorem dl_1415 : decode code 1415 = .ok (.iadd, 1) := mlok_21 (1415, .iadd, 1) (List.mem_of_getElem? (i := 13) rfl)
theorem dl_1416 : decode code 1416 = .ok (.iaload, 1) := mlok_21 (1416, .iaload, 1) (List.mem_of_getElem? (i := 14) rfl)
theorem dl_1417 : decode code 1417 = .ok (.aload_n 0, 1) := mlok_21 (1417, .aload_n 0, 1) (List.mem_of_getElem? (i := 15) rfl)
theorem dl_1418 : decode code 1418 = .ok (.iload_n 3, 1) := mlok_21 (1418, .iload_n 3, 1) (List.mem_of_getElem? (i := 16) rfl)
theorem dl_1419 : decode code 1419 = .ok (.iconst 5, 1) := mlok_21 (1419, .iconst 5, 1) (List.mem_of_getElem? (i := 17) rfl)
theorem dl_1420 : decode code 1420 = .ok (.iadd, 1) := mlok_21 (1420, .iadd, 1) (List.mem_of_getElem? (i := 18) rfl)
theorem dl_1421 : decode code 1421 = .ok (.iaload, 1) := mlok_21 (1421, .iaload, 1) (List.mem_of_getElem? (i := 19) rfl)
theorem dl_1422 : decode code 1422 = .ok (.ifCond .eq 7, 3) := mlok_21 (1422, .ifCond .eq 7, 3) (List.mem_of_getElem? (i := 20) rfl)
theorem dl_1425 : decode code 1425 = .ok (.iconst 1, 1) := mlok_21 (1425, .iconst 1, 1) (List.mem_of_getElem? (i := 21) rfl)
theorem dl_1426 : decode code 1426 = .ok (.goto 4, 3) := mlok_21 (1426, .goto 4, 3) (List.mem_of_getElem? (i := 22) rfl)
theorem dl_1429 : decode code 1429 = .ok (.iconst 0, 1) := mlok_21 (1429, .iconst 0, 1) (List.mem_of_getElem? (i := 23) rfl)
theorem dl_1430 : decode code 1430 = .ok (.invokevirtual 119, 3) := mlok_21 (1430, .invokevirtual 119, 3) (List.mem_of_getElem? (i := 24) rfl)
theorem dl_1433 : decode code 1433 = .ok (.aload_n 2, 1) := mlok_21 (1433, .aload_n 2, 1) (List.mem_of_getElem? (i := 25) rfl)
theorem dl_1434 : decode code 1434 = .ok (.aload_n 0, 1) := mlok_21 (1434, .aload_n 0, 1) (List.mem_of_getElem? (i := 26) rfl)
theorem dl_1435 : decode code 1435 = .ok (.iload_n 3, 1) := mlok_21 (1435, .iload_n 3, 1) (List.mem_of_getElem? (i := 27) rfl)
theorem dl_1436 : decode code 1436 = .ok (.iconst 1, 1) := mlok_21 (1436, .iconst 1, 1) (List.mem_of_getElem? (i := 28) rfl)
theorem dl_1437 : decode code 1437 = .ok (.iadd, 1) := mlok_21 (1437, .iadd, 1) (List.mem_of_getElem? (i := 29) rfl)
theorem dl_1438 : decode code 1438 = .ok (.iaload, 1) := mlok_21 (1438, .iaload, 1) (List.mem_of_getElem? (i := 30) rfl)
theorem dl_1439 : decode code 1439 = .ok (.aload_n 0, 1) := mlok_21 (1439, .aload_n 0, 1) (List.mem_of_getElem? (i := 31) rfl)
theorem dl_1440 : decode code 1440 = .ok (.iload_n 3, 1) := mlok_21 (1440, .iload_n 3, 1) (List.mem_of_getElem? (i := 32) rfl)
theorem dl_1441 : decode code 1441 = .ok (.iconst 2, 1) := mlok_21 (1441, .iconst 2, 1) (List.mem_of_getElem? (i := 33) rfl)
theorem dl_1442 : decode code 1442 = .ok (.iadd, 1) := mlok_21 (1442, .iadd, 1) (List.mem_of_getElem? (i := 34) rfl)
theorem dl_1443 : decode code 1443 = .ok (.iaload, 1) := mlok_21 (1443, .iaload, 1) (List.mem_of_getElem? (i := 35) rfl)
theorem dl_1444 : decode code 1444 = .ok (.aload_n 0, 1) := mlok_21 (1444, .aload_n 0, 1) (List.mem_of_getElem? (i := 36) rfl)
theorem dl_1445 : decode code 1445 = .ok (.iload_n 3, 1) := mlok_21 (1445, .iload_n 3, 1) (List.mem_of_getElem? (i := 37) rfl)
theorem dl_1446 : decode code 1446 = .ok (.iconst 3, 1) := mlok_21 (1446, .iconst 3, 1) (List.mem_of_getElem? (i := 38) rfl)
theorem dl_1447 : decode code 1447 = .ok (.iadd, 1) := mlok_21 (1447, .iadd, 1) (List.mem_of_getElem? (i := 39) rfl)
theorem dl_1448 : decode code 1448 = .ok (.iaload, 1) := mlok_21 (1448, .iaload, 1) (List.mem_of_getElem? (i := 40) rfl)
theorem dl_1449 : decode code 1449 = .ok (.aload_n 0, 1) := mlok_21 (1449, .aload_n 0, 1) (List.mem_of_getElem? (i := 41) rfl)
theorem dl_1450 : decode code 1450 = .ok (.iload_n 3, 1) := mlok_21 (1450, .iload_n 3, 1) (List.mem_of_getElem? (i := 42) rfl)
theorem dl_1451 : decode code 1451 = .ok (.iconst 4, 1) := mlok_21 (1451, .iconst 4, 1) (List.mem_of_getElem? (i := 43) rfl)
theorem dl_1452 : decode code 1452 = .ok (.iadd, 1) := mlok_21 (1452, .iadd, 1) (List.mem_of_getElem? (i := 44) rfl)
theorem dl_1453 : decode code 1453 = .ok (.iaload, 1) := mlok_21 (1453, .iaload, 1) (List.mem_of_getElem? (i := 45) rfl)
theorem dl_1454 : decode code 1454 = .ok (.aload_n 0, 1) := mlok_21 (1454, .aload_n 0, 1) (List.mem_of_getElem? (i := 46) rfl)
theorem dl_1455 : decode code 1455 = .ok (.iload_n 3, 1) := mlok_21 (1455, .iload_n 3, 1) (List.mem_of_getElem? (i := 47) rfl)
theorem dl_1456 : decode code 1456 = .ok (.iconst 5, 1) := mlok_21 (1456, .iconst 5, 1) (List.mem_of_getElem? (i := 48) rfl)
theorem dl_1457 : decode code 1457 = .ok (.iadd, 1) := mlok_21 (1457, .iadd, 1) (List.mem_of_getElem? (i := 49) rfl)
theorem dl_1458 : decode code 1458 = .ok (.iaload, 1) := mlok_22 (1458, .iaload, 1) (List.mem_of_getElem? (i := 0) rfl)
theorem dl_1459 : decode code 1459 = .ok (.ifCond .eq 7, 3) := mlok_22 (1459, .ifCond .eq 7, 3) (List.mem_of_getElem? (i := 1) rfl)
theorem dl_1462 : decode code 1462 = .ok (.iconst 1, 1) := mlok_22 (1462, .iconst 1, 1) (List.mem_of_getElem? (i := 2) rfl)
theorem dl_1463 : decode code 1463 = .ok (.goto 4, 3) := mlok_22 (1463, .goto 4, 3) (List.mem_of_getElem? (i := 3) rfl)
theorem dl_1466 : decode code 1466 = .ok (.iconst 0, 1) := mlok_22 (1466, .iconst 0, 1) (List.mem_of_getElem? (i := 4) rfl)
theorem dl_1467 : decode code 1467 = .ok (.invokevirtual 122, 3) := mlok_22 (1467, .invokevirtual 122, 3) (List.mem_of_getElem? (i := 5) rfl)
theorem dl_1470 : decode code 1470 = .ok (.lcmp, 1) := mlok_22 (1470, .lcmp, 1) (List.mem_of_getElem? (i := 6) rfl)
theorem dl_1471 : decode code 1471 = .ok (.ifCond .eq 445, 3) := mlok_22 (1471, .ifCond .eq 445, 3) (List.mem_of_getElem? (i := 7) rfl)
theorem dl_1474 : decode code 1474 = .ok (.iconst 0, 1) := mlok_22 (1474, .iconst 0, 1) (List.mem_of_getElem? (i := 8) rfl)
theorem dl_1475 : decode code 1475 = .ok (.ireturn, 1) := mlok_22 (1475, .ireturn, 1) (List.mem_of_getElem? (i := 9) rfl)
theorem dl_1476 : decode code 1476 = .ok (.aload_n 1, 1) := mlok_22 (1476, .aload_n 1, 1) (List.mem_of_getElem? (i := 10) rfl)
theorem dl_1477 : decode code 1477 = .ok (.aload_n 0, 1) := mlok_22 (1477, .aload_n 0, 1) (List.mem_of_getElem? (i := 11) rfl)
theorem dl_1478 : decode code 1478 = .ok (.iload_n 3, 1) := mlok_22 (1478, .iload_n 3, 1) (List.mem_of_getElem? (i := 12) rfl)
theorem dl_1479 : decode code 1479 = .ok (.iconst 1, 1) := mlok_22 (1479, .iconst 1, 1) (List.mem_of_getElem? (i := 13) rfl)
theorem dl_1480 : decode code 1480 = .ok (.iadd, 1) := mlok_22 (1480, .iadd, 1) (List.mem_of_getElem? (i := 14) rfl)
theorem dl_1481 : decode code 1481 = .ok (.iaload, 1) := mlok_22 (1481, .iaload, 1) (List.mem_of_getElem? (i := 15) rfl)
theorem dl_1482 : decode code 1482 = .ok (.aload_n 0, 1) := mlok_22 (1482, .aload_n 0, 1) (List.mem_of_getElem? (i := 16) rfl)
theorem dl_1483 : decode code 1483 = .ok (.iload_n 3, 1) := mlok_22 (1483, .iload_n 3, 1) (List.mem_of_getElem? (i := 17) rfl)
theorem dl_1484 : decode code 1484 = .ok (.iconst 2, 1) := mlok_22 (1484, .iconst 2, 1) (List.mem_of_getElem? (i := 18) rfl)
theorem dl_1485 : decode code 1485 = .ok (.iadd, 1) := mlok_22 (1485, .iadd, 1) (List.mem_of_getElem? (i := 19) rfl)
theorem dl_1486 : decode code 1486 = .ok (.iaload, 1) := mlok_22 (1486, .iaload, 1) (List.mem_of_getElem? (i := 20) rfl)
theorem dl_1487 : decode code 1487 = .ok (.aload_n 0, 1) := mlok_22 (1487, .aload_n 0, 1) (List.mem_of_getElem? (i := 21) rfl)
theorem dl_1488 : decode code 1488 = .ok (.iload_n 3, 1) := mlok_22 (1488, .iload_n 3, 1) (List.mem_of_getElem? (i := 22) rfl)
theorem dl_1489 : decode code 1489 = .ok (.iconst 3, 1) := mlok_22 (1489, .iconst 3, 1) (List.mem_of_getElem? (i := 23) rfl)
theorem dl_1490 : decode code 1490 = .ok (.iadd, 1) := mlok_22 (1490, .iadd, 1) (List.mem_of_getElem? (i := 24) rfl)
theorem dl_1491 : decode code 1491 = .ok (.iaload, 1) := mlok_22 (1491, .iaload, 1) (List.mem_of_getElem? (i := 25) rfl)
theorem dl_1492 : decode code 1492 = .ok (.aload_n 0, 1) := mlok_22 (1492, .aload_n 0, 1) (List.mem_of_getElem? (i := 26) rfl)
theorem dl_1493 : decode code 1493 = .ok (.iload_n 3, 1) := mlok_22 (1493, .iload_n 3, 1) (List.mem_of_getElem? (i := 27) rfl)
theorem dl_1494 : decode code 1494 = .ok (.iconst 4, 1) := mlok_22 (1494, .iconst 4, 1) (List.mem_of_getElem? (i := 28) rfl)
theorem dl_1495 : decode code 1495 = .ok (.iadd, 1) := mlok_22 (1495, .iadd, 1) (List.mem_of_getElem? (i := 29) rfl)
theorem dl_1496 : decode code 1496 = .ok (.iaload, 1) := mlok_22 (1496, .iaload, 1) (List.mem_of_getElem? (i := 30) rfl)
theorem dl_1497 : decode code 1497 = .ok (.invokevirtual 123, 3) := mlok_22 (1497, .invokevirtual 123, 3) (List.mem_of_getElem? (i := 31) rfl)
theorem dl_1500 : decode code 1500 = .ok (.aload_n 2, 1) := mlok_22 (1500, .aload_n 2, 1) (List.mem_of_getElem? (i := 32) rfl)
theorem dl_1501 : decode code 1501 = .ok (.aload_n 0, 1) := mlok_22 (1501, .aload_n 0, 1) (List.mem_of_getElem? (i := 33) rfl)
theorem dl_1502 : decode code 1502 = .ok (.iload_n 3, 1) := mlok_22 (1502, .iload_n 3, 1) (List.mem_of_getElem? (i := 34) rfl)
theorem dl_1503 : decode code 1503 = .ok (.iconst 1, 1) := mlok_22 (1503, .iconst 1, 1) (List.mem_of_getElem? (i := 35) rfl)
theorem dl_1504 : decode code 1504 = .ok (.iadd, 1) := mlok_22 (1504, .iadd, 1) (List.mem_of_getElem? (i := 36) rfl)
theorem dl_1505 : decode code 1505 = .ok (.iaload, 1) := mlok_22 (1505, .iaload, 1) (List.mem_of_getElem? (i := 37) rfl)
theorem dl_1506 : decode code 1506 = .ok (.aload_n 0, 1) := mlok_22 (1506, .aload_n 0, 1) (List.mem_of_getElem? (i := 38) rfl)
theorem dl_1507 : decode code 1507 = .ok (.iload_n 3, 1) := mlok_22 (1507, .iload_n 3, 1) (List.mem_of_getElem? (i := 39) rfl)
theorem dl_1508 : decode code 1508 = .ok (.iconst 2, 1) := mlok_22 (1508, .iconst 2, 1) (List.mem_of_getElem? (i := 40) rfl)
theorem dl_1509 : decode code 1509 = .ok (.iadd, 1) := mlok_22 (1509, .iadd, 1) (List.mem_of_getElem? (i := 41) rfl)
theorem dl_1510 : decode code 1510 = .ok (.iaload, 1) := mlok_22 (1510, .iaload, 1) (List.mem_of_getElem? (i := 42) rfl)
theorem dl_1511 : decode code 1511 = .ok (.aload_n 0, 1) := mlok_22 (1511, .aload_n 0, 1) (List.mem_of_getElem? (i := 43) rfl)
theorem dl_1512 : decode code 1512 = .ok (.iload_n 3, 1) := mlok_22 (1512, .iload_n 3, 1) (List.mem_of_getElem? (i := 44) rfl)
theorem dl_1513 : decode code 1513 = .ok (.iconst 3, 1) := mlok_22 (1513, .iconst 3, 1) (List.mem_of_getElem? (i := 45) rfl)
theorem dl_1514 : decode code 1514 = .ok (.iadd, 1) := mlok_22 (1514, .iadd, 1) (List.mem_of_getElem? (i := 46) rfl)
theorem dl_1515 : decode code 1515 = .ok (.iaload, 1) := mlok_22 (1515, .iaload, 1) (List.mem_of_getElem? (i := 47) rfl)
theorem dl_1516 : decode code 1516 = .ok (.aload_n 0, 1) := mlok_22 (1516, .aload_n 0, 1) (List.mem_of_getElem? (i := 48) rfl)
theorem dl_1517 : decode code 1517 = .ok (.iload_n 3, 1) := mlok_22 (1517, .iload_n 3, 1) (List.mem_of_getElem? (i := 49) rfl)
theorem dl_1518 : decode code 1518 = .ok (.iconst 4, 1) := mlok_23 (1518, .iconst 4, 1) (List.mem_of_getElem? (i := 0) rfl)
theorem dl_1519 : decode code 1519 = .ok (.iadd, 1) := mlok_23 (1519, .iadd, 1) (List.mem_of_getElem? (i := 1) rfl)
theorem dl_1520 : decode code 1520 = .ok (.iaload, 1) := mlok_23 (1520, .iaload, 1) (List.mem_of_getElem? (i := 2) rfl)
theorem dl_1521 : decode code 1521 = .ok (.invokevirtual 126, 3) := mlok_23 (1521, .invokevirtual 126, 3) (List.mem_of_getElem? (i := 3) rfl)
theorem dl_1524 : decode code 1524 = .ok (.if_icmp .eq 392, 3) := mlok_23 (1524, .if_icmp .eq 392, 3) (List.mem_of_getElem? (i := 4) rfl)
theorem dl_1527 : decode code 1527 = .ok (.iconst 0, 1) := mlok_23 (1527, .iconst 0, 1) (List.mem_of_getElem? (i := 5) rfl)
theorem dl_1528 : decode code 1528 = .ok (.ireturn, 1) := mlok_23 (1528, .ireturn, 1) (List.mem_of_getElem? (i := 6) rfl)
theorem dl_1529 : decode code 1529 = .ok (.aload_n 1, 1) := mlok_23 (1529, .aload_n 1, 1) (List.mem_of_getElem? (i := 7) rfl)
theorem dl_1530 : decode code 1530 = .ok (.aload_n 0, 1) := mlok_23 (1530, .aload_n 0, 1) (List.mem_of_getElem? (i := 8) rfl)
theorem dl_1531 : decode code 1531 = .ok (.iload_n 3, 1) := mlok_23 (1531, .iload_n 3, 1) (List.mem_of_getElem? (i := 9) rfl)
theorem dl_1532 : decode code 1532 = .ok (.iconst 1, 1) := mlok_23 (1532, .iconst 1, 1) (List.mem_of_getElem? (i := 10) rfl)
theorem dl_1533 : decode code 1533 = .ok (.iadd, 1) := mlok_23 (1533, .iadd, 1) (List.mem_of_getElem? (i := 11) rfl)
theorem dl_1534 : decode code 1534 = .ok (.iaload, 1) := mlok_23 (1534, .iaload, 1) (List.mem_of_getElem? (i := 12) rfl)
theorem dl_1535 : decode code 1535 = .ok (.aload_n 0, 1) := mlok_23 (1535, .aload_n 0, 1) (List.mem_of_getElem? (i := 13) rfl)
theorem dl_1536 : decode code 1536 = .ok (.iload_n 3, 1) := mlok_23 (1536, .iload_n 3, 1) (List.mem_of_getElem? (i := 14) rfl)
theorem dl_1537 : decode code 1537 = .ok (.iconst 2, 1) := mlok_23 (1537, .iconst 2, 1) (List.mem_of_getElem? (i := 15) rfl)
theorem dl_1538 : decode code 1538 = .ok (.iadd, 1) := mlok_23 (1538, .iadd, 1) (List.mem_of_getElem? (i := 16) rfl)
theorem dl_1539 : decode code 1539 = .ok (.iaload, 1) := mlok_23 (1539, .iaload, 1) (List.mem_of_getElem? (i := 17) rfl)
theorem dl_1540 : decode code 1540 = .ok (.aload_n 0, 1) := mlok_23 (1540, .aload_n 0, 1) (List.mem_of_getElem? (i := 18) rfl)
theorem dl_1541 : decode code 1541 = .ok (.iload_n 3, 1) := mlok_23 (1541, .iload_n 3, 1) (List.mem_of_getElem? (i := 19) rfl)
theorem dl_1542 : decode code 1542 = .ok (.iconst 3, 1) := mlok_23 (1542, .iconst 3, 1) (List.mem_of_getElem? (i := 20) rfl)
theorem dl_1543 : decode code 1543 = .ok (.iadd, 1) := mlok_23 (1543, .iadd, 1) (List.mem_of_getElem? (i := 21) rfl)
theorem dl_1544 : decode code 1544 = .ok (.iaload, 1) := mlok_23 (1544, .iaload, 1) (List.mem_of_getElem? (i := 22) rfl)
theorem dl_1545 : decode code 1545 = .ok (.invokevirtual 127, 3) := mlok_23 (1545, .invokevirtual 127, 3) (List.mem_of_getElem? (i := 23) rfl)
theorem dl_1548 : decode code 1548 = .ok (.aload_n 2, 1) := mlok_23 (1548, .aload_n 2, 1) (List.mem_of_getElem? (i := 24) rfl)
theorem dl_1549 : decode code 1549 = .ok (.aload_n 0, 1) := mlok_23 (1549, .aload_n 0, 1) (List.mem_of_getElem? (i := 25) rfl)
theorem dl_1550 : decode code 1550 = .ok (.iload_n 3, 1) := mlok_23 (1550, .iload_n 3, 1) (List.mem_of_getElem? (i := 26) rfl)
theorem dl_1551 : decode code 1551 = .ok (.iconst 1, 1) := mlok_23 (1551, .iconst 1, 1) (List.mem_of_getElem? (i := 27) rfl)
theorem dl_1552 : decode code 1552 = .ok (.iadd, 1) := mlok_23 (1552, .iadd, 1) (List.mem_of_getElem? (i := 28) rfl)
theorem dl_1553 : decode code 1553 = .ok (.iaload, 1) := mlok_23 (1553, .iaload, 1) (List.mem_of_getElem? (i := 29) rfl)
theorem dl_1554 : decode code 1554 = .ok (.aload_n 0, 1) := mlok_23 (1554, .aload_n 0, 1) (List.mem_of_getElem? (i := 30) rfl)
theorem dl_1555 : decode code 1555 = .ok (.iload_n 3, 1) := mlok_23 (1555, .iload_n 3, 1) (List.mem_of_getElem? (i := 31) rfl)
theorem dl_1556 : decode code 1556 = .ok (.iconst 2, 1) := mlok_23 (1556, .iconst 2, 1) (List.mem_of_getElem? (i := 32) rfl)
theorem dl_1557 : decode code 1557 = .ok (.iadd, 1) := mlok_23 (1557, .iadd, 1) (List.mem_of_getElem? (i := 33) rfl)
theorem dl_1558 : decode code 1558 = .ok (.iaload, 1) := mlok_23 (1558, .iaload, 1) (List.mem_of_getElem? (i := 34) rfl)
theorem dl_1559 : decode code 1559 = .ok (.aload_n 0, 1) := mlok_23 (1559, .aload_n 0, 1) (List.mem_of_getElem? (i := 35) rfl)
theorem dl_1560 : decode code 1560 = .ok (.iload_n 3, 1) := mlok_23 (1560, .iload_n 3, 1) (List.mem_of_getElem? (i := 36) rfl)
theorem dl_1561 : decode code 1561 = .ok (.iconst 3, 1) := mlok_23 (1561, .iconst 3, 1) (List.mem_of_getElem? (i := 37) rfl)
theorem dl_1562 : decode code 1562 = .ok (.iadd, 1) := mlok_23 (1562, .iadd, 1) (List.mem_of_getElem? (i := 38) rfl)
theorem dl_1563 : decode code 1563 = .ok (.iaload, 1) := mlok_23 (1563, .iaload, 1) (List.mem_of_getElem? (i := 39) rfl)
theorem dl_1564 : decode code 1564 = .ok (.invokevirtual 130, 3) := mlok_23 (1564, .invokevirtual 130, 3) (List.mem_of_getElem? (i := 40) rfl)
theorem dl_1567 : decode code 1567 = .ok (.if_icmp .eq 349, 3) := mlok_23 (1567, .if_icmp .eq 349, 3) (List.mem_of_getElem? (i := 41) rfl)
theorem dl_1570 : decode code 1570 = .ok (.iconst 0, 1) := mlok_23 (1570, .iconst 0, 1) (List.mem_of_getElem? (i := 42) rfl)
theorem dl_1571 : decode code 1571 = .ok (.ireturn, 1) := mlok_23 (1571, .ireturn, 1) (List.mem_of_getElem? (i := 43) rfl)
theorem dl_1572 : decode code 1572 = .ok (.aload_n 1, 1) := mlok_23 (1572, .aload_n 1, 1) (List.mem_of_getElem? (i := 44) rfl)
theorem dl_1573 : decode code 1573 = .ok (.aload_n 0, 1) := mlok_23 (1573, .aload_n 0, 1) (List.mem_of_getElem? (i := 45) rfl)
theorem dl_1574 : decode code 1574 = .ok (.iload_n 3, 1) := mlok_23 (1574, .iload_n 3, 1) (List.mem_of_getElem? (i := 46) rfl)
theorem dl_1575 : decode code 1575 = .ok (.iconst 1, 1) := mlok_23 (1575, .iconst 1, 1) (List.mem_of_getElem? (i := 47) rfl)
theorem dl_1576 : decode code 1576 = .ok (.iadd, 1) := mlok_23 (1576, .iadd, 1) (List.mem_of_getElem? (i := 48) rfl)
theorem dl_1577 : decode code 1577 = .ok (.iaload, 1) := mlok_23 (1577, .iaload, 1) (List.mem_of_getElem? (i := 49) rfl)
theorem dl_1578 : decode code 1578 = .ok (.aload_n 0, 1) := mlok_24 (1578, .aload_n 0, 1) (List.mem_of_getElem? (i := 0) rfl)
theorem dl_1579 : decode code 1579 = .ok (.iload_n 3, 1) := mlok_24 (1579, .iload_n 3, 1) (List.mem_of_getElem? (i := 1) rfl)
theorem dl_1580 : decode code 1580 = .ok (.iconst 2, 1) := mlok_24 (1580, .iconst 2, 1) (List.mem_of_getElem? (i := 2) rfl)
theorem dl_1581 : decode code 1581 = .ok (.iadd, 1) := mlok_24 (1581, .iadd, 1) (List.mem_of_getElem? (i := 3) rfl)
theorem dl_1582 : decode code 1582 = .ok (.iaload, 1) := mlok_24 (1582, .iaload, 1) (List.mem_of_getElem? (i := 4) rfl)
theorem dl_1583 : decode code 1583 = .ok (.aload_n 0, 1) := mlok_24 (1583, .aload_n 0, 1) (List.mem_of_getElem? (i := 5) rfl)
theorem dl_1584 : decode code 1584 = .ok (.iload_n 3, 1) := mlok_24 (1584, .iload_n 3, 1) (List.mem_of_getElem? (i := 6) rfl)
theorem dl_1585 : decode code 1585 = .ok (.iconst 3, 1) := mlok_24 (1585, .iconst 3, 1) (List.mem_of_getElem? (i := 7) rfl)
theorem dl_1586 : decode code 1586 = .ok (.iadd, 1) := mlok_24 (1586, .iadd, 1) (List.mem_of_getElem? (i := 8) rfl)
theorem dl_1587 : decode code 1587 = .ok (.iaload, 1) := mlok_24 (1587, .iaload, 1) (List.mem_of_getElem? (i := 9) rfl)
theorem dl_1588 : decode code 1588 = .ok (.invokevirtual 131, 3) := mlok_24 (1588, .invokevirtual 131, 3) (List.mem_of_getElem? (i := 10) rfl)
theorem dl_1591 : decode code 1591 = .ok (.aload_n 2, 1) := mlok_24 (1591, .aload_n 2, 1) (List.mem_of_getElem? (i := 11) rfl)
theorem dl_1592 : decode code 1592 = .ok (.aload_n 0, 1) := mlok_24 (1592, .aload_n 0, 1) (List.mem_of_getElem? (i := 12) rfl)
theorem dl_1593 : decode code 1593 = .ok (.iload_n 3, 1) := mlok_24 (1593, .iload_n 3, 1) (List.mem_of_getElem? (i := 13) rfl)
theorem dl_1594 : decode code 1594 = .ok (.iconst 1, 1) := mlok_24 (1594, .iconst 1, 1) (List.mem_of_getElem? (i := 14) rfl)
theorem dl_1595 : decode code 1595 = .ok (.iadd, 1) := mlok_24 (1595, .iadd, 1) (List.mem_of_getElem? (i := 15) rfl)
theorem dl_1596 : decode code 1596 = .ok (.iaload, 1) := mlok_24 (1596, .iaload, 1) (List.mem_of_getElem? (i := 16) rfl)
theorem dl_1597 : decode code 1597 = .ok (.aload_n 0, 1) := mlok_24 (1597, .aload_n 0, 1) (List.mem_of_getElem? (i := 17) rfl)
theorem dl_1598 : decode code 1598 = .ok (.iload_n 3, 1) := mlok_24 (1598, .iload_n 3, 1) (List.mem_of_getElem? (i := 18) rfl)
theorem dl_1599 : decode code 1599 = .ok (.iconst 2, 1) := mlok_24 (1599, .iconst 2, 1) (List.mem_of_getElem? (i := 19) rfl)
theorem dl_1600 : decode code 1600 = .ok (.iadd, 1) := mlok_24 (1600, .iadd, 1) (List.mem_of_getElem? (i := 20) rfl)
theorem dl_1601 : decode code 1601 = .ok (.iaload, 1) := mlok_24 (1601, .iaload, 1) (List.mem_of_getElem? (i := 21) rfl)
theorem dl_1602 : decode code 1602 = .ok (.aload_n 0, 1) := mlok_24 (1602, .aload_n 0, 1) (List.mem_of_getElem? (i := 22) rfl)
theorem dl_1603 : decode code 1603 = .ok (.iload_n 3, 1) := mlok_24 (1603, .iload_n 3, 1) (List.mem_of_getElem? (i := 23) rfl)
theorem dl_1604 : decode code 1604 = .ok (.iconst 3, 1) := mlok_24 (1604, .iconst 3, 1) (List.mem_of_getElem? (i := 24) rfl)
theorem dl_1605 : decode code 1605 = .ok (.iadd, 1) := mlok_24 (1605, .iadd, 1) (List.mem_of_getElem? (i := 25) rfl)
theorem dl_1606 : decode code 1606 = .ok (.iaload, 1) := mlok_24 (1606, .iaload, 1) (List.mem_of_getElem? (i := 26) rfl)
theorem dl_1607 : decode code 1607 = .ok (.invokevirtual 134, 3) := mlok_24 (1607, .invokevirtual 134, 3) (List.mem_of_getElem? (i := 27) rfl)
theorem dl_1610 : decode code 1610 = .ok (.if_icmp .eq 306, 3) := mlok_24 (1610, .if_icmp .eq 306, 3) (List.mem_of_getElem? (i := 28) rfl)
theorem dl_1613 : decode code 1613 = .ok (.iconst 0, 1) := mlok_24 (1613, .iconst 0, 1) (List.mem_of_getElem? (i := 29) rfl)
theorem dl_1614 : decode code 1614 = .ok (.ireturn, 1) := mlok_24 (1614, .ireturn, 1) (List.mem_of_getElem? (i := 30) rfl)
theorem dl_1615 : decode code 1615 = .ok (.aload_n 1, 1) := mlok_24 (1615, .aload_n 1, 1) (List.mem_of_getElem? (i := 31) rfl)
theorem dl_1616 : decode code 1616 = .ok (.aload_n 0, 1) := mlok_24 (1616, .aload_n 0, 1) (List.mem_of_getElem? (i := 32) rfl)
theorem dl_1617 : decode code 1617 = .ok (.iload_n 3, 1) := mlok_24 (1617, .iload_n 3, 1) (List.mem_of_getElem? (i := 33) rfl)
theorem dl_1618 : decode code 1618 = .ok (.iconst 1, 1) := mlok_24 (1618, .iconst 1, 1) (List.mem_of_getElem? (i := 34) rfl)
theorem dl_1619 : decode code 1619 = .ok (.iadd, 1) := mlok_24 (1619, .iadd, 1) (List.mem_of_getElem? (i := 35) rfl)
theorem dl_1620 : decode code 1620 = .ok (.iaload, 1) := mlok_24 (1620, .iaload, 1) (List.mem_of_getElem? (i := 36) rfl)
theorem dl_1621 : decode code 1621 = .ok (.aload_n 0, 1) := mlok_24 (1621, .aload_n 0, 1) (List.mem_of_getElem? (i := 37) rfl)
theorem dl_1622 : decode code 1622 = .ok (.iload_n 3, 1) := mlok_24 (1622, .iload_n 3, 1) (List.mem_of_getElem? (i := 38) rfl)
theorem dl_1623 : decode code 1623 = .ok (.iconst 2, 1) := mlok_24 (1623, .iconst 2, 1) (List.mem_of_getElem? (i := 39) rfl)
theorem dl_1624 : decode code 1624 = .ok (.iadd, 1) := mlok_24 (1624, .iadd, 1) (List.mem_of_getElem? (i := 40) rfl)
theorem dl_1625 : decode code 1625 = .ok (.iaload, 1) := mlok_24 (1625, .iaload, 1) (List.mem_of_getElem? (i := 41) rfl)
theorem dl_1626 : decode code 1626 = .ok (.invokevirtual 135, 3) := mlok_24 (1626, .invokevirtual 135, 3) (List.mem_of_getElem? (i := 42) rfl)
theorem dl_1629 : decode code 1629 = .ok (.aload_n 2, 1) := mlok_24 (1629, .aload_n 2, 1) (List.mem_of_getElem? (i := 43) rfl)
theorem dl_1630 : decode code 1630 = .ok (.aload_n 0, 1) := mlok_24 (1630, .aload_n 0, 1) (List.mem_of_getElem? (i := 44) rfl)
theorem dl_1631 : decode code 1631 = .ok (.iload_n 3, 1) := mlok_24 (1631, .iload_n 3, 1) (List.mem_of_getElem? (i := 45) rfl)
theorem dl_1632 : decode code 1632 = .ok (.iconst 1, 1) := mlok_24 (1632, .iconst 1, 1) (List.mem_of_getElem? (i := 46) rfl)
theorem dl_1633 : decode code 1633 = .ok (.iadd, 1) := mlok_24 (1633, .iadd, 1) (List.mem_of_getElem? (i := 47) rfl)
theorem dl_1634 : decode code 1634 = .ok (.iaload, 1) := mlok_24 (1634, .iaload, 1) (List.mem_of_getElem? (i := 48) rfl)
theorem dl_1635 : decode code 1635 = .ok (.aload_n 0, 1) := mlok_24 (1635, .aload_n 0, 1) (List.mem_of_getElem? (i := 49) rfl)
theorem dl_1636 : decode code 1636 = .ok (.iload_n 3, 1) := mlok_25 (1636, .iload_n 3, 1) (List.mem_of_getElem? (i := 0) rfl)
theorem dl_1637 : decode code 1637 = .ok (.iconst 2, 1) := mlok_25 (1637, .iconst 2, 1) (List.mem_of_getElem? (i := 1) rfl)
theorem dl_1638 : decode code 1638 = .ok (.iadd, 1) := mlok_25 (1638, .iadd, 1) (List.mem_of_getElem? (i := 2) rfl)
theorem dl_1639 : decode code 1639 = .ok (.iaload, 1) := mlok_25 (1639, .iaload, 1) (List.mem_of_getElem? (i := 3) rfl)
theorem dl_1640 : decode code 1640 = .ok (.invokevirtual 138, 3) := mlok_25 (1640, .invokevirtual 138, 3) (List.mem_of_getElem? (i := 4) rfl)
theorem dl_1643 : decode code 1643 = .ok (.if_icmp .eq 273, 3) := mlok_25 (1643, .if_icmp .eq 273, 3) (List.mem_of_getElem? (i := 5) rfl)
theorem dl_1646 : decode code 1646 = .ok (.iconst 0, 1) := mlok_25 (1646, .iconst 0, 1) (List.mem_of_getElem? (i := 6) rfl)
theorem dl_1647 : decode code 1647 = .ok (.ireturn, 1) := mlok_25 (1647, .ireturn, 1) (List.mem_of_getElem? (i := 7) rfl)
theorem dl_1648 : decode code 1648 = .ok (.aload_n 1, 1) := mlok_25 (1648, .aload_n 1, 1) (List.mem_of_getElem? (i := 8) rfl)
theorem dl_1649 : decode code 1649 = .ok (.aload_n 0, 1) := mlok_25 (1649, .aload_n 0, 1) (List.mem_of_getElem? (i := 9) rfl)
theorem dl_1650 : decode code 1650 = .ok (.iload_n 3, 1) := mlok_25 (1650, .iload_n 3, 1) (List.mem_of_getElem? (i := 10) rfl)
theorem dl_1651 : decode code 1651 = .ok (.iconst 1, 1) := mlok_25 (1651, .iconst 1, 1) (List.mem_of_getElem? (i := 11) rfl)
theorem dl_1652 : decode code 1652 = .ok (.iadd, 1) := mlok_25 (1652, .iadd, 1) (List.mem_of_getElem? (i := 12) rfl)
theorem dl_1653 : decode code 1653 = .ok (.iaload, 1) := mlok_25 (1653, .iaload, 1) (List.mem_of_getElem? (i := 13) rfl)
theorem dl_1654 : decode code 1654 = .ok (.aload_n 0, 1) := mlok_25 (1654, .aload_n 0, 1) (List.mem_of_getElem? (i := 14) rfl)
theorem dl_1655 : decode code 1655 = .ok (.iload_n 3, 1) := mlok_25 (1655, .iload_n 3, 1) (List.mem_of_getElem? (i := 15) rfl)
theorem dl_1656 : decode code 1656 = .ok (.iconst 2, 1) := mlok_25 (1656, .iconst 2, 1) (List.mem_of_getElem? (i := 16) rfl)
theorem dl_1657 : decode code 1657 = .ok (.iadd, 1) := mlok_25 (1657, .iadd, 1) (List.mem_of_getElem? (i := 17) rfl)
theorem dl_1658 : decode code 1658 = .ok (.iaload, 1) := mlok_25 (1658, .iaload, 1) (List.mem_of_getElem? (i := 18) rfl)
theorem dl_1659 : decode code 1659 = .ok (.aload_n 0, 1) := mlok_25 (1659, .aload_n 0, 1) (List.mem_of_getElem? (i := 19) rfl)
theorem dl_1660 : decode code 1660 = .ok (.iload_n 3, 1) := mlok_25 (1660, .iload_n 3, 1) (List.mem_of_getElem? (i := 20) rfl)
theorem dl_1661 : decode code 1661 = .ok (.iconst 3, 1) := mlok_25 (1661, .iconst 3, 1) (List.mem_of_getElem? (i := 21) rfl)
theorem dl_1662 : decode code 1662 = .ok (.iadd, 1) := mlok_25 (1662, .iadd, 1) (List.mem_of_getElem? (i := 22) rfl)
theorem dl_1663 : decode code 1663 = .ok (.iaload, 1) := mlok_25 (1663, .iaload, 1) (List.mem_of_getElem? (i := 23) rfl)
theorem dl_1664 : decode code 1664 = .ok (.invokevirtual 139, 3) := mlok_25 (1664, .invokevirtual 139, 3) (List.mem_of_getElem? (i := 24) rfl)
theorem dl_1667 : decode code 1667 = .ok (.aload_n 2, 1) := mlok_25 (1667, .aload_n 2, 1) (List.mem_of_getElem? (i := 25) rfl)
theorem dl_1668 : decode code 1668 = .ok (.aload_n 0, 1) := mlok_25 (1668, .aload_n 0, 1) (List.mem_of_getElem? (i := 26) rfl)
theorem dl_1669 : decode code 1669 = .ok (.iload_n 3, 1) := mlok_25 (1669, .iload_n 3, 1) (List.mem_of_getElem? (i := 27) rfl)
theorem dl_1670 : decode code 1670 = .ok (.iconst 1, 1) := mlok_25 (1670, .iconst 1, 1) (List.mem_of_getElem? (i := 28) rfl)
theorem dl_1671 : decode code 1671 = .ok (.iadd, 1) := mlok_25 (1671, .iadd, 1) (List.mem_of_getElem? (i := 29) rfl)
theorem dl_1672 : decode code 1672 = .ok (.iaload, 1) := mlok_25 (1672, .iaload, 1) (List.mem_of_getElem? (i := 30) rfl)
theorem dl_1673 : decode code 1673 = .ok (.aload_n 0, 1) := mlok_25 (1673, .aload_n 0, 1) (List.mem_of_getElem? (i := 31) rfl)
theorem dl_1674 : decode code 1674 = .ok (.iload_n 3, 1) := mlok_25 (1674, .iload_n 3, 1) (List.mem_of_getElem? (i := 32) rfl)
theorem dl_1675 : decode code 1675 = .ok (.iconst 2, 1) := mlok_25 (1675, .iconst 2, 1) (List.mem_of_getElem? (i := 33) rfl)
theorem dl_1676 : decode code 1676 = .ok (.iadd, 1) := mlok_25 (1676, .iadd, 1) (List.mem_of_getElem? (i := 34) rfl)
theorem dl_1677 : decode code 1677 = .ok (.iaload, 1) := mlok_25 (1677, .iaload, 1) (List.mem_of_getElem? (i := 35) rfl)
theorem dl_1678 : decode code 1678 = .ok (.aload_n 0, 1) := mlok_25 (1678, .aload_n 0, 1) (List.mem_of_getElem? (i := 36) rfl)
theorem dl_1679 : decode code 1679 = .ok (.iload_n 3, 1) := mlok_25 (1679, .iload_n 3, 1) (List.mem_of_getElem? (i := 37) rfl)
theorem dl_1680 : decode code 1680 = .ok (.iconst 3, 1) := mlok_25 (1680, .iconst 3, 1) (List.mem_of_getElem? (i := 38) rfl)
theorem dl_1681 : decode code 1681 = .ok (.iadd, 1) := mlok_25 (1681, .iadd, 1) (List.mem_of_getElem? (i := 39) rfl)
theorem dl_1682 : decode code 1682 = .ok (.iaload, 1) := mlok_25 (1682, .iaload, 1) (List.mem_of_getElem? (i := 40) rfl)
theorem dl_1683 : decode code 1683 = .ok (.invokevirtual 142, 3) := mlok_25 (1683, .invokevirtual 142, 3) (List.mem_of_getElem? (i := 41) rfl)
theorem dl_1686 : decode code 1686 = .ok (.if_icmp .eq 230, 3) := mlok_25 (1686, .if_icmp .eq 230, 3) (List.mem_of_getElem? (i := 42) rfl)
theorem dl_1689 : decode code 1689 = .ok (.iconst 0, 1) := mlok_25 (1689, .iconst 0, 1) (List.mem_of_getElem? (i := 43) rfl)
theorem dl_1690 : decode code 1690 = .ok (.ireturn, 1) := mlok_25 (1690, .ireturn, 1) (List.mem_of_getElem? (i := 44) rfl)
theorem dl_1691 : decode code 1691 = .ok (.aload_n 1, 1) := mlok_25 (1691, .aload_n 1, 1) (List.mem_of_getElem? (i := 45) rfl)
theorem dl_1692 : decode code 1692 = .ok (.aload_n 0, 1) := mlok_25 (1692, .aload_n 0, 1) (List.mem_of_getElem? (i := 46) rfl)
theorem dl_1693 : decode code 1693 = .ok (.iload_n 3, 1) := mlok_25 (1693, .iload_n 3, 1) (List.mem_of_getElem? (i := 47) rfl)
theorem dl_1694 : decode code 1694 = .ok (.iconst 1, 1) := mlok_25 (1694, .iconst 1, 1) (List.mem_of_getElem? (i := 48) rfl)
theorem dl_1695 : decode code 1695 = .ok (.iadd, 1) := mlok_25 (1695, .iadd, 1) (List.mem_of_getElem? (i := 49) rfl)
theorem dl_1696 : decode code 1696 = .ok (.iaload, 1) := mlok_26 (1696, .iaload, 1) (List.mem_of_getElem? (i := 0) rfl)
theorem dl_1697 : decode code 1697 = .ok (.aload_n 0, 1) := mlok_26 (1697, .aload_n 0, 1) (List.mem_of_getElem? (i := 1) rfl)
theorem dl_1698 : decode code 1698 = .ok (.iload_n 3, 1) := mlok_26 (1698, .iload_n 3, 1) (List.mem_of_getElem? (i := 2) rfl)
theorem dl_1699 : decode code 1699 = .ok (.iconst 2, 1) := mlok_26 (1699, .iconst 2, 1) (List.mem_of_getElem? (i := 3) rfl)
theorem dl_1700 : decode code 1700 = .ok (.iadd, 1) := mlok_26 (1700, .iadd, 1) (List.mem_of_getElem? (i := 4) rfl)
theorem dl_1701 : decode code 1701 = .ok (.iaload, 1) := mlok_26 (1701, .iaload, 1) (List.mem_of_getElem? (i := 5) rfl)
theorem dl_1702 : decode code 1702 = .ok (.aload_n 0, 1) := mlok_26 (1702, .aload_n 0, 1) (List.mem_of_getElem? (i := 6) rfl)
theorem dl_1703 : decode code 1703 = .ok (.iload_n 3, 1) := mlok_26 (1703, .iload_n 3, 1) (List.mem_of_getElem? (i := 7) rfl)
theorem dl_1704 : decode code 1704 = .ok (.iconst 3, 1) := mlok_26 (1704, .iconst 3, 1) (List.mem_of_getElem? (i := 8) rfl)
theorem dl_1705 : decode code 1705 = .ok (.iadd, 1) := mlok_26 (1705, .iadd, 1) (List.mem_of_getElem? (i := 9) rfl)
theorem dl_1706 : decode code 1706 = .ok (.iaload, 1) := mlok_26 (1706, .iaload, 1) (List.mem_of_getElem? (i := 10) rfl)
theorem dl_1707 : decode code 1707 = .ok (.invokevirtual 143, 3) := mlok_26 (1707, .invokevirtual 143, 3) (List.mem_of_getElem? (i := 11) rfl)
theorem dl_1710 : decode code 1710 = .ok (.aload_n 2, 1) := mlok_26 (1710, .aload_n 2, 1) (List.mem_of_getElem? (i := 12) rfl)
theorem dl_1711 : decode code 1711 = .ok (.aload_n 0, 1) := mlok_26 (1711, .aload_n 0, 1) (List.mem_of_getElem? (i := 13) rfl)
theorem dl_1712 : decode code 1712 = .ok (.iload_n 3, 1) := mlok_26 (1712, .iload_n 3, 1) (List.mem_of_getElem? (i := 14) rfl)
theorem dl_1713 : decode code 1713 = .ok (.iconst 1, 1) := mlok_26 (1713, .iconst 1, 1) (List.mem_of_getElem? (i := 15) rfl)
theorem dl_1714 : decode code 1714 = .ok (.iadd, 1) := mlok_26 (1714, .iadd, 1) (List.mem_of_getElem? (i := 16) rfl)
theorem dl_1715 : decode code 1715 = .ok (.iaload, 1) := mlok_26 (1715, .iaload, 1) (List.mem_of_getElem? (i := 17) rfl)
theorem dl_1716 : decode code 1716 = .ok (.aload_n 0, 1) := mlok_26 (1716, .aload_n 0, 1) (List.mem_of_getElem? (i := 18) rfl)
theorem dl_1717 : decode code 1717 = .ok (.iload_n 3, 1) := mlok_26 (1717, .iload_n 3, 1) (List.mem_of_getElem? (i := 19) rfl)
theorem dl_1718 : decode code 1718 = .ok (.iconst 2, 1) := mlok_26 (1718, .iconst 2, 1) (List.mem_of_getElem? (i := 20) rfl)
theorem dl_1719 : decode code 1719 = .ok (.iadd, 1) := mlok_26 (1719, .iadd, 1) (List.mem_of_getElem? (i := 21) rfl)
theorem dl_1720 : decode code 1720 = .ok (.iaload, 1) := mlok_26 (1720, .iaload, 1) (List.mem_of_getElem? (i := 22) rfl)
theorem dl_1721 : decode code 1721 = .ok (.aload_n 0, 1) := mlok_26 (1721, .aload_n 0, 1) (List.mem_of_getElem? (i := 23) rfl)
theorem dl_1722 : decode code 1722 = .ok (.iload_n 3, 1) := mlok_26 (1722, .iload_n 3, 1) (List.mem_of_getElem? (i := 24) rfl)
theorem dl_1723 : decode code 1723 = .ok (.iconst 3, 1) := mlok_26 (1723, .iconst 3, 1) (List.mem_of_getElem? (i := 25) rfl)
theorem dl_1724 : decode code 1724 = .ok (.iadd, 1) := mlok_26 (1724, .iadd, 1) (List.mem_of_getElem? (i := 26) rfl)
theorem dl_1725 : decode code 1725 = .ok (.iaload, 1) := mlok_26 (1725, .iaload, 1) (List.mem_of_getElem? (i := 27) rfl)
theorem dl_1726 : decode code 1726 = .ok (.invokevirtual 146, 3) := mlok_26 (1726, .invokevirtual 146, 3) (List.mem_of_getElem? (i := 28) rfl)
theorem dl_1729 : decode code 1729 = .ok (.if_icmp .eq 187, 3) := mlok_26 (1729, .if_icmp .eq 187, 3) (List.mem_of_getElem? (i := 29) rfl)
theorem dl_1732 : decode code 1732 = .ok (.iconst 0, 1) := mlok_26 (1732, .iconst 0, 1) (List.mem_of_getElem? (i := 30) rfl)
theorem dl_1733 : decode code 1733 = .ok (.ireturn, 1) := mlok_26 (1733, .ireturn, 1) (List.mem_of_getElem? (i := 31) rfl)
theorem dl_1734 : decode code 1734 = .ok (.aload_n 1, 1) := mlok_26 (1734, .aload_n 1, 1) (List.mem_of_getElem? (i := 32) rfl)
theorem dl_1735 : decode code 1735 = .ok (.aload_n 0, 1) := mlok_26 (1735, .aload_n 0, 1) (List.mem_of_getElem? (i := 33) rfl)
theorem dl_1736 : decode code 1736 = .ok (.iload_n 3, 1) := mlok_26 (1736, .iload_n 3, 1) (List.mem_of_getElem? (i := 34) rfl)
theorem dl_1737 : decode code 1737 = .ok (.iconst 1, 1) := mlok_26 (1737, .iconst 1, 1) (List.mem_of_getElem? (i := 35) rfl)
theorem dl_1738 : decode code 1738 = .ok (.iadd, 1) := mlok_26 (1738, .iadd, 1) (List.mem_of_getElem? (i := 36) rfl)
theorem dl_1739 : decode code 1739 = .ok (.iaload, 1) := mlok_26 (1739, .iaload, 1) (List.mem_of_getElem? (i := 37) rfl)
theorem dl_1740 : decode code 1740 = .ok (.aload_n 0, 1) := mlok_26 (1740, .aload_n 0, 1) (List.mem_of_getElem? (i := 38) rfl)
theorem dl_1741 : decode code 1741 = .ok (.iload_n 3, 1) := mlok_26 (1741, .iload_n 3, 1) (List.mem_of_getElem? (i := 39) rfl)
theorem dl_1742 : decode code 1742 = .ok (.iconst 2, 1) := mlok_26 (1742, .iconst 2, 1) (List.mem_of_getElem? (i := 40) rfl)
theorem dl_1743 : decode code 1743 = .ok (.iadd, 1) := mlok_26 (1743, .iadd, 1) (List.mem_of_getElem? (i := 41) rfl)
theorem dl_1744 : decode code 1744 = .ok (.iaload, 1) := mlok_26 (1744, .iaload, 1) (List.mem_of_getElem? (i := 42) rfl)
theorem dl_1745 : decode code 1745 = .ok (.aload_n 0, 1) := mlok_26 (1745, .aload_n 0, 1) (List.mem_of_getElem? (i := 43) rfl)
theorem dl_1746 : decode code 1746 = .ok (.iload_n 3, 1) := mlok_26 (1746, .iload_n 3, 1) (List.mem_of_getElem? (i := 44) rfl)
theorem dl_1747 : decode code 1747 = .ok (.iconst 3, 1) := mlok_26 (1747, .iconst 3, 1) (List.mem_of_getElem? (i := 45) rfl)
theorem dl_1748 : decode code 1748 = .ok (.iadd, 1) := mlok_26 (1748, .iadd, 1) (List.mem_of_getElem? (i := 46) rfl)
theorem dl_1749 : decode code 1749 = .ok (.iaload, 1) := mlok_26 (1749, .iaload, 1) (List.mem_of_getElem? (i := 47) rfl)
theorem dl_1750 : decode code 1750 = .ok (.invokevirtual 147, 3) := mlok_26 (1750, .invokevirtual 147, 3) (List.mem_of_getElem? (i := 48) rfl)
theorem dl_1753 : decode code 1753 = .ok (.aload_n 2, 1) := mlok_26 (1753, .aload_n 2, 1) (List.mem_of_getElem? (i := 49) rfl)
theorem dl_1754 : decode code 1754 = .ok (.aload_n 0, 1) := mlok_27 (1754, .aload_n 0, 1) (List.mem_of_getElem? (i := 0) rfl)
theorem dl_1755 : decode code 1755 = .ok (.iload_n 3, 1) := mlok_27 (1755, .iload_n 3, 1) (List.mem_of_getElem? (i := 1) rfl)
theorem dl_1756 : decode code 1756 = .ok (.iconst 1, 1) := mlok_27 (1756, .iconst 1, 1) (List.mem_of_getElem? (i := 2) rfl)
theorem dl_1757 : decode code 1757 = .ok (.iadd, 1) := mlok_27 (1757, .iadd, 1) (List.mem_of_getElem? (i := 3) rfl)
theorem dl_1758 : decode code 1758 = .ok (.iaload, 1) := mlok_27 (1758, .iaload, 1) (List.mem_of_getElem? (i := 4) rfl)
theorem dl_1759 : decode code 1759 = .ok (.aload_n 0, 1) := mlok_27 (1759, .aload_n 0, 1) (List.mem_of_getElem? (i := 5) rfl)
theorem dl_1760 : decode code 1760 = .ok (.iload_n 3, 1) := mlok_27 (1760, .iload_n 3, 1) (List.mem_of_getElem? (i := 6) rfl)
theorem dl_1761 : decode code 1761 = .ok (.iconst 2, 1) := mlok_27 (1761, .iconst 2, 1) (List.mem_of_getElem? (i := 7) rfl)
theorem dl_1762 : decode code 1762 = .ok (.iadd, 1) := mlok_27 (1762, .iadd, 1) (List.mem_of_getElem? (i := 8) rfl)
theorem dl_1763 : decode code 1763 = .ok (.iaload, 1) := mlok_27 (1763, .iaload, 1) (List.mem_of_getElem? (i := 9) rfl)
theorem dl_1764 : decode code 1764 = .ok (.aload_n 0, 1) := mlok_27 (1764, .aload_n 0, 1) (List.mem_of_getElem? (i := 10) rfl)
theorem dl_1765 : decode code 1765 = .ok (.iload_n 3, 1) := mlok_27 (1765, .iload_n 3, 1) (List.mem_of_getElem? (i := 11) rfl)
theorem dl_1766 : decode code 1766 = .ok (.iconst 3, 1) := mlok_27 (1766, .iconst 3, 1) (List.mem_of_getElem? (i := 12) rfl)
theorem dl_1767 : decode code 1767 = .ok (.iadd, 1) := mlok_27 (1767, .iadd, 1) (List.mem_of_getElem? (i := 13) rfl)
theorem dl_1768 : decode code 1768 = .ok (.iaload, 1) := mlok_27 (1768, .iaload, 1) (List.mem_of_getElem? (i := 14) rfl)
theorem dl_1769 : decode code 1769 = .ok (.invokevirtual 150, 3) := mlok_27 (1769, .invokevirtual 150, 3) (List.mem_of_getElem? (i := 15) rfl)
theorem dl_1772 : decode code 1772 = .ok (.if_icmp .eq 144, 3) := mlok_27 (1772, .if_icmp .eq 144, 3) (List.mem_of_getElem? (i := 16) rfl)
theorem dl_1775 : decode code 1775 = .ok (.iconst 0, 1) := mlok_27 (1775, .iconst 0, 1) (List.mem_of_getElem? (i := 17) rfl)
theorem dl_1776 : decode code 1776 = .ok (.ireturn, 1) := mlok_27 (1776, .ireturn, 1) (List.mem_of_getElem? (i := 18) rfl)
theorem dl_1777 : decode code 1777 = .ok (.aload_n 1, 1) := mlok_27 (1777, .aload_n 1, 1) (List.mem_of_getElem? (i := 19) rfl)
theorem dl_1778 : decode code 1778 = .ok (.aload_n 0, 1) := mlok_27 (1778, .aload_n 0, 1) (List.mem_of_getElem? (i := 20) rfl)
theorem dl_1779 : decode code 1779 = .ok (.iload_n 3, 1) := mlok_27 (1779, .iload_n 3, 1) (List.mem_of_getElem? (i := 21) rfl)
theorem dl_1780 : decode code 1780 = .ok (.iconst 1, 1) := mlok_27 (1780, .iconst 1, 1) (List.mem_of_getElem? (i := 22) rfl)
theorem dl_1781 : decode code 1781 = .ok (.iadd, 1) := mlok_27 (1781, .iadd, 1) (List.mem_of_getElem? (i := 23) rfl)
theorem dl_1782 : decode code 1782 = .ok (.iaload, 1) := mlok_27 (1782, .iaload, 1) (List.mem_of_getElem? (i := 24) rfl)
theorem dl_1783 : decode code 1783 = .ok (.aload_n 0, 1) := mlok_27 (1783, .aload_n 0, 1) (List.mem_of_getElem? (i := 25) rfl)
theorem dl_1784 : decode code 1784 = .ok (.iload_n 3, 1) := mlok_27 (1784, .iload_n 3, 1) (List.mem_of_getElem? (i := 26) rfl)
theorem dl_1785 : decode code 1785 = .ok (.iconst 2, 1) := mlok_27 (1785, .iconst 2, 1) (List.mem_of_getElem? (i := 27) rfl)
theorem dl_1786 : decode code 1786 = .ok (.iadd, 1) := mlok_27 (1786, .iadd, 1) (List.mem_of_getElem? (i := 28) rfl)
theorem dl_1787 : decode code 1787 = .ok (.iaload, 1) := mlok_27 (1787, .iaload, 1) (List.mem_of_getElem? (i := 29) rfl)
theorem dl_1788 : decode code 1788 = .ok (.aload_n 0, 1) := mlok_27 (1788, .aload_n 0, 1) (List.mem_of_getElem? (i := 30) rfl)
theorem dl_1789 : decode code 1789 = .ok (.iload_n 3, 1) := mlok_27 (1789, .iload_n 3, 1) (List.mem_of_getElem? (i := 31) rfl)
theorem dl_1790 : decode code 1790 = .ok (.iconst 3, 1) := mlok_27 (1790, .iconst 3, 1) (List.mem_of_getElem? (i := 32) rfl)
theorem dl_1791 : decode code 1791 = .ok (.iadd, 1) := mlok_27 (1791, .iadd, 1) (List.mem_of_getElem? (i := 33) rfl)
theorem dl_1792 : decode code 1792 = .ok (.iaload, 1) := mlok_27 (1792, .iaload, 1) (List.mem_of_getElem? (i := 34) rfl)
theorem dl_1793 : decode code 1793 = .ok (.aload_n 0, 1) := mlok_27 (1793, .aload_n 0, 1) (List.mem_of_getElem? (i := 35) rfl)
theorem dl_1794 : decode code 1794 = .ok (.iload_n 3, 1) := mlok_27 (1794, .iload_n 3, 1) (List.mem_of_getElem? (i := 36) rfl)
theorem dl_1795 : decode code 1795 = .ok (.iconst 4, 1) := mlok_27 (1795, .iconst 4, 1) (List.mem_of_getElem? (i := 37) rfl)
theorem dl_1796 : decode code 1796 = .ok (.iadd, 1) := mlok_27 (1796, .iadd, 1) (List.mem_of_getElem? (i := 38) rfl)
theorem dl_1797 : decode code 1797 = .ok (.iaload, 1) := mlok_27 (1797, .iaload, 1) (List.mem_of_getElem? (i := 39) rfl)
theorem dl_1798 : decode code 1798 = .ok (.ifCond .eq 7, 3) := mlok_27 (1798, .ifCond .eq 7, 3) (List.mem_of_getElem? (i := 40) rfl)
theorem dl_1801 : decode code 1801 = .ok (.iconst 1, 1) := mlok_27 (1801, .iconst 1, 1) (List.mem_of_getElem? (i := 41) rfl)
theorem dl_1802 : decode code 1802 = .ok (.goto 4, 3) := mlok_27 (1802, .goto 4, 3) (List.mem_of_getElem? (i := 42) rfl)
theorem dl_1805 : decode code 1805 = .ok (.iconst 0, 1) := mlok_27 (1805, .iconst 0, 1) (List.mem_of_getElem? (i := 43) rfl)
theorem dl_1806 : decode code 1806 = .ok (.invokevirtual 151, 3) := mlok_27 (1806, .invokevirtual 151, 3) (List.mem_of_getElem? (i := 44) rfl)
theorem dl_1809 : decode code 1809 = .ok (.aload_n 2, 1) := mlok_27 (1809, .aload_n 2, 1) (List.mem_of_getElem? (i := 45) rfl)
theorem dl_1810 : decode code 1810 = .ok (.aload_n 0, 1) := mlok_27 (1810, .aload_n 0, 1) (List.mem_of_getElem? (i := 46) rfl)
theorem dl_1811 : decode code 1811 = .ok (.iload_n 3, 1) := mlok_27 (1811, .iload_n 3, 1) (List.mem_of_getElem? (i := 47) rfl)
theorem dl_1812 : decode code 1812 = .ok (.iconst 1, 1) := mlok_27 (1812, .iconst 1, 1) (List.mem_of_getElem? (i := 48) rfl)
theorem dl_1813 : decode code 1813 = .ok (.iadd, 1) := mlok_27 (1813, .iadd, 1) (List.mem_of_getElem? (i := 49) rfl)
theorem dl_1814 : decode code 1814 = .ok (.iaload, 1) := mlok_28 (1814, .iaload, 1) (List.mem_of_getElem? (i := 0) rfl)
theorem dl_1815 : decode code 1815 = .ok (.aload_n 0, 1) := mlok_28 (1815, .aload_n 0, 1) (List.mem_of_getElem? (i := 1) rfl)
theorem dl_1816 : decode code 1816 = .ok (.iload_n 3, 1) := mlok_28 (1816, .iload_n 3, 1) (List.mem_of_getElem? (i := 2) rfl)
theorem dl_1817 : decode code 1817 = .ok (.iconst 2, 1) := mlok_28 (1817, .iconst 2, 1) (List.mem_of_getElem? (i := 3) rfl)
theorem dl_1818 : decode code 1818 = .ok (.iadd, 1) := mlok_28 (1818, .iadd, 1) (List.mem_of_getElem? (i := 4) rfl)
theorem dl_1819 : decode code 1819 = .ok (.iaload, 1) := mlok_28 (1819, .iaload, 1) (List.mem_of_getElem? (i := 5) rfl)
theorem dl_1820 : decode code 1820 = .ok (.aload_n 0, 1) := mlok_28 (1820, .aload_n 0, 1) (List.mem_of_getElem? (i := 6) rfl)
theorem dl_1821 : decode code 1821 = .ok (.iload_n 3, 1) := mlok_28 (1821, .iload_n 3, 1) (List.mem_of_getElem? (i := 7) rfl)
theorem dl_1822 : decode code 1822 = .ok (.iconst 3, 1) := mlok_28 (1822, .iconst 3, 1) (List.mem_of_getElem? (i := 8) rfl)
theorem dl_1823 : decode code 1823 = .ok (.iadd, 1) := mlok_28 (1823, .iadd, 1) (List.mem_of_getElem? (i := 9) rfl)
theorem dl_1824 : decode code 1824 = .ok (.iaload, 1) := mlok_28 (1824, .iaload, 1) (List.mem_of_getElem? (i := 10) rfl)
theorem dl_1825 : decode code 1825 = .ok (.aload_n 0, 1) := mlok_28 (1825, .aload_n 0, 1) (List.mem_of_getElem? (i := 11) rfl)
theorem dl_1826 : decode code 1826 = .ok (.iload_n 3, 1) := mlok_28 (1826, .iload_n 3, 1) (List.mem_of_getElem? (i := 12) rfl)
theorem dl_1827 : decode code 1827 = .ok (.iconst 4, 1) := mlok_28 (1827, .iconst 4, 1) (List.mem_of_getElem? (i := 13) rfl)
theorem dl_1828 : decode code 1828 = .ok (.iadd, 1) := mlok_28 (1828, .iadd, 1) (List.mem_of_getElem? (i := 14) rfl)
theorem dl_1829 : decode code 1829 = .ok (.iaload, 1) := mlok_28 (1829, .iaload, 1) (List.mem_of_getElem? (i := 15) rfl)
theorem dl_1830 : decode code 1830 = .ok (.ifCond .eq 7, 3) := mlok_28 (1830, .ifCond .eq 7, 3) (List.mem_of_getElem? (i := 16) rfl)
theorem dl_1833 : decode code 1833 = .ok (.iconst 1, 1) := mlok_28 (1833, .iconst 1, 1) (List.mem_of_getElem? (i := 17) rfl)
theorem dl_1834 : decode code 1834 = .ok (.goto 4, 3) := mlok_28 (1834, .goto 4, 3) (List.mem_of_getElem? (i := 18) rfl)
theorem dl_1837 : decode code 1837 = .ok (.iconst 0, 1) := mlok_28 (1837, .iconst 0, 1) (List.mem_of_getElem? (i := 19) rfl)
theorem dl_1838 : decode code 1838 = .ok (.invokevirtual 154, 3) := mlok_28 (1838, .invokevirtual 154, 3) (List.mem_of_getElem? (i := 20) rfl)
theorem dl_1841 : decode code 1841 = .ok (.lcmp, 1) := mlok_28 (1841, .lcmp, 1) (List.mem_of_getElem? (i := 21) rfl)
theorem dl_1842 : decode code 1842 = .ok (.ifCond .eq 74, 3) := mlok_28 (1842, .ifCond .eq 74, 3) (List.mem_of_getElem? (i := 22) rfl)
theorem dl_1845 : decode code 1845 = .ok (.iconst 0, 1) := mlok_28 (1845, .iconst 0, 1) (List.mem_of_getElem? (i := 23) rfl)
theorem dl_1846 : decode code 1846 = .ok (.ireturn, 1) := mlok_28 (1846, .ireturn, 1) (List.mem_of_getElem? (i := 24) rfl)
theorem dl_1847 : decode code 1847 = .ok (.aload_n 1, 1) := mlok_28 (1847, .aload_n 1, 1) (List.mem_of_getElem? (i := 25) rfl)
theorem dl_1848 : decode code 1848 = .ok (.aload_n 0, 1) := mlok_28 (1848, .aload_n 0, 1) (List.mem_of_getElem? (i := 26) rfl)
theorem dl_1849 : decode code 1849 = .ok (.iload_n 3, 1) := mlok_28 (1849, .iload_n 3, 1) (List.mem_of_getElem? (i := 27) rfl)
theorem dl_1850 : decode code 1850 = .ok (.iconst 1, 1) := mlok_28 (1850, .iconst 1, 1) (List.mem_of_getElem? (i := 28) rfl)
theorem dl_1851 : decode code 1851 = .ok (.iadd, 1) := mlok_28 (1851, .iadd, 1) (List.mem_of_getElem? (i := 29) rfl)
theorem dl_1852 : decode code 1852 = .ok (.iaload, 1) := mlok_28 (1852, .iaload, 1) (List.mem_of_getElem? (i := 30) rfl)
theorem dl_1853 : decode code 1853 = .ok (.invokevirtual 155, 3) := mlok_28 (1853, .invokevirtual 155, 3) (List.mem_of_getElem? (i := 31) rfl)
theorem dl_1856 : decode code 1856 = .ok (.aload_n 2, 1) := mlok_28 (1856, .aload_n 2, 1) (List.mem_of_getElem? (i := 32) rfl)
theorem dl_1857 : decode code 1857 = .ok (.aload_n 0, 1) := mlok_28 (1857, .aload_n 0, 1) (List.mem_of_getElem? (i := 33) rfl)
theorem dl_1858 : decode code 1858 = .ok (.iload_n 3, 1) := mlok_28 (1858, .iload_n 3, 1) (List.mem_of_getElem? (i := 34) rfl)
theorem dl_1859 : decode code 1859 = .ok (.iconst 1, 1) := mlok_28 (1859, .iconst 1, 1) (List.mem_of_getElem? (i := 35) rfl)
theorem dl_1860 : decode code 1860 = .ok (.iadd, 1) := mlok_28 (1860, .iadd, 1) (List.mem_of_getElem? (i := 36) rfl)
theorem dl_1861 : decode code 1861 = .ok (.iaload, 1) := mlok_28 (1861, .iaload, 1) (List.mem_of_getElem? (i := 37) rfl)
theorem dl_1862 : decode code 1862 = .ok (.invokevirtual 158, 3) := mlok_28 (1862, .invokevirtual 158, 3) (List.mem_of_getElem? (i := 38) rfl)
theorem dl_1865 : decode code 1865 = .ok (.if_icmp .eq 51, 3) := mlok_28 (1865, .if_icmp .eq 51, 3) (List.mem_of_getElem? (i := 39) rfl)
theorem dl_1868 : decode code 1868 = .ok (.iconst 0, 1) := mlok_28 (1868, .iconst 0, 1) (List.mem_of_getElem? (i := 40) rfl)
theorem dl_1869 : decode code 1869 = .ok (.ireturn, 1) := mlok_28 (1869, .ireturn, 1) (List.mem_of_getElem? (i := 41) rfl)
theorem dl_1870 : decode code 1870 = .ok (.aload_n 1, 1) := mlok_28 (1870, .aload_n 1, 1) (List.mem_of_getElem? (i := 42) rfl)
theorem dl_1871 : decode code 1871 = .ok (.aload_n 0, 1) := mlok_28 (1871, .aload_n 0, 1) (List.mem_of_getElem? (i := 43) rfl)
theorem dl_1872 : decode code 1872 = .ok (.iload_n 3, 1) := mlok_28 (1872, .iload_n 3, 1) (List.mem_of_getElem? (i := 44) rfl)
theorem dl_1873 : decode code 1873 = .ok (.iconst 1, 1) := mlok_28 (1873, .iconst 1, 1) (List.mem_of_getElem? (i := 45) rfl)
theorem dl_1874 : decode code 1874 = .ok (.iadd, 1) := mlok_28 (1874, .iadd, 1) (List.mem_of_getElem? (i := 46) rfl)
theorem dl_1875 : decode code 1875 = .ok (.iaload, 1) := mlok_28 (1875, .iaload, 1) (List.mem_of_getElem? (i := 47) rfl)
theorem dl_1876 : decode code 1876 = .ok (.invokevirtual 159, 3) := mlok_28 (1876, .invokevirtual 159, 3) (List.mem_of_getElem? (i := 48) rfl)
theorem dl_1879 : decode code 1879 = .ok (.aload_n 2, 1) := mlok_28 (1879, .aload_n 2, 1) (List.mem_of_getElem? (i := 49) rfl)
theorem dl_1880 : decode code 1880 = .ok (.aload_n 0, 1) := mlok_29 (1880, .aload_n 0, 1) (List.mem_of_getElem? (i := 0) rfl)
theorem dl_1881 : decode code 1881 = .ok (.iload_n 3, 1) := mlok_29 (1881, .iload_n 3, 1) (List.mem_of_getElem? (i := 1) rfl)
theorem dl_1882 : decode code 1882 = .ok (.iconst 1, 1) := mlok_29 (1882, .iconst 1, 1) (List.mem_of_getElem? (i := 2) rfl)
theorem dl_1883 : decode code 1883 = .ok (.iadd, 1) := mlok_29 (1883, .iadd, 1) (List.mem_of_getElem? (i := 3) rfl)
theorem dl_1884 : decode code 1884 = .ok (.iaload, 1) := mlok_29 (1884, .iaload, 1) (List.mem_of_getElem? (i := 4) rfl)
theorem dl_1885 : decode code 1885 = .ok (.invokevirtual 163, 3) := mlok_29 (1885, .invokevirtual 163, 3) (List.mem_of_getElem? (i := 5) rfl)
theorem dl_1888 : decode code 1888 = .ok (.if_icmp .eq 28, 3) := mlok_29 (1888, .if_icmp .eq 28, 3) (List.mem_of_getElem? (i := 6) rfl)
theorem dl_1891 : decode code 1891 = .ok (.iconst 0, 1) := mlok_29 (1891, .iconst 0, 1) (List.mem_of_getElem? (i := 7) rfl)
theorem dl_1892 : decode code 1892 = .ok (.ireturn, 1) := mlok_29 (1892, .ireturn, 1) (List.mem_of_getElem? (i := 8) rfl)
theorem dl_1893 : decode code 1893 = .ok (.aload_n 1, 1) := mlok_29 (1893, .aload_n 1, 1) (List.mem_of_getElem? (i := 9) rfl)
theorem dl_1894 : decode code 1894 = .ok (.aload_n 0, 1) := mlok_29 (1894, .aload_n 0, 1) (List.mem_of_getElem? (i := 10) rfl)
theorem dl_1895 : decode code 1895 = .ok (.iload_n 3, 1) := mlok_29 (1895, .iload_n 3, 1) (List.mem_of_getElem? (i := 11) rfl)
theorem dl_1896 : decode code 1896 = .ok (.iconst 1, 1) := mlok_29 (1896, .iconst 1, 1) (List.mem_of_getElem? (i := 12) rfl)
theorem dl_1897 : decode code 1897 = .ok (.iadd, 1) := mlok_29 (1897, .iadd, 1) (List.mem_of_getElem? (i := 13) rfl)
theorem dl_1898 : decode code 1898 = .ok (.iaload, 1) := mlok_29 (1898, .iaload, 1) (List.mem_of_getElem? (i := 14) rfl)
theorem dl_1899 : decode code 1899 = .ok (.invokevirtual 164, 3) := mlok_29 (1899, .invokevirtual 164, 3) (List.mem_of_getElem? (i := 15) rfl)
theorem dl_1902 : decode code 1902 = .ok (.aload_n 2, 1) := mlok_29 (1902, .aload_n 2, 1) (List.mem_of_getElem? (i := 16) rfl)
theorem dl_1903 : decode code 1903 = .ok (.aload_n 0, 1) := mlok_29 (1903, .aload_n 0, 1) (List.mem_of_getElem? (i := 17) rfl)
theorem dl_1904 : decode code 1904 = .ok (.iload_n 3, 1) := mlok_29 (1904, .iload_n 3, 1) (List.mem_of_getElem? (i := 18) rfl)
theorem dl_1905 : decode code 1905 = .ok (.iconst 1, 1) := mlok_29 (1905, .iconst 1, 1) (List.mem_of_getElem? (i := 19) rfl)
theorem dl_1906 : decode code 1906 = .ok (.iadd, 1) := mlok_29 (1906, .iadd, 1) (List.mem_of_getElem? (i := 20) rfl)
theorem dl_1907 : decode code 1907 = .ok (.iaload, 1) := mlok_29 (1907, .iaload, 1) (List.mem_of_getElem? (i := 21) rfl)
theorem dl_1908 : decode code 1908 = .ok (.invokevirtual 167, 3) := mlok_29 (1908, .invokevirtual 167, 3) (List.mem_of_getElem? (i := 22) rfl)
theorem dl_1911 : decode code 1911 = .ok (.if_icmp .eq 5, 3) := mlok_29 (1911, .if_icmp .eq 5, 3) (List.mem_of_getElem? (i := 23) rfl)
theorem dl_1914 : decode code 1914 = .ok (.iconst 0, 1) := mlok_29 (1914, .iconst 0, 1) (List.mem_of_getElem? (i := 24) rfl)
theorem dl_1915 : decode code 1915 = .ok (.ireturn, 1) := mlok_29 (1915, .ireturn, 1) (List.mem_of_getElem? (i := 25) rfl)
theorem dl_1916 : decode code 1916 = .ok (.iinc 3 8, 3) := mlok_29 (1916, .iinc 3 8, 3) (List.mem_of_getElem? (i := 26) rfl)
theorem dl_1919 : decode code 1919 = .ok (.goto (-1901), 3) := mlok_29 (1919, .goto (-1901), 3) (List.mem_of_getElem? (i := 27) rfl)
theorem dl_1922 : decode code 1922 = .ok (.iconst 1, 1) := mlok_29 (1922, .iconst 1, 1) (List.mem_of_getElem? (i := 28) rfl)
theorem dl_1923 : decode code 1923 = .ok (.ireturn, 1) := mlok_29 (1923, .ireturn, 1) (List.mem_of_getElem? (i := 29) rfl)
set_option maxRecDepth 20000 in
theorem xS_F : xS 368 ≤ 7302250 := by decide +kernel
def L0 (n : Nat) : List (Nat × Value) := [(3, .int (nI n)), (2, .ref 325), (1, .ref 0), (0, .ref 400000)]
def bz (x : Int32) : Int32 := if x = 0 then 0 else 1
theorem cmp_self (x : Int64) : lg_cmp x x = 0 := by
  unfold lg_cmp
  rw [if_neg (by rw [gt_iff_lt, Int64.lt_iff_toInt_lt]; omega), if_pos rfl]
section LAW2
variable {κ : xK} {p : Program} {l : Launch} {e : Env} {s : State} {mid : MethodId} {below : List Frame} {meth : Method} {c0 : Code} {b Ln : Nat} {xs : Nat → Int32} {pc n : Nat} {st stk : List Value} {D : xD} {L : List (Nat × Value)} {g : gS}
theorem l_arg {k : Nat} {kz : Int} (C : lC κ p s mid meth c0 b Ln xs) (hn : n + 8 ≤ Ln) (hk : k < 8) (h1 : decode code pc = .ok (.aload_n 0, 1)) (h2 : decode code (pc + 1) = .ok (.iload_n 3, 1)) (h3 : decode code (pc + 1 + 1) = .ok (.iconst kz, 1)) (hkz : Int32.ofInt kz = nI k) (h4 : decode code (pc + 1 + 1 + 1) = .ok (.iadd, 1)) (h5 : decode code (pc + 1 + 1 + 1 + 1) = .ok (.iaload, 1)) (kk : lP κ p l e s mid below meth c0 b (pc + 5) (L0 n) (.int (xs (n + k)) :: st) xF D) : lP κ p l e s mid below meth c0 b pc (L0 n) st xF D := by
  have hL := C.2.2.2.2.2.2.2.2.2.2.2.2
  refine l_aload C h1 rfl ?_
  refine l_iload C h2 rfl ?_
  refine l_iconst C h3 hkz ?_
  refine l_iadd C h4 ?_
  rw [nI_add]
  refine l_sld C h5 (vp_in_nI (by omega) (by omega)) ?_
  rw [nI_clamp (by omega)]
  exact kk
theorem l_argb {k : Nat} {kz : Int} (C : lC κ p s mid meth c0 b Ln xs) (hn : n + 8 ≤ Ln) (hk : k < 8) (h1 : decode code pc = .ok (.aload_n 0, 1)) (h2 : decode code (pc + 1) = .ok (.iload_n 3, 1)) (h3 : decode code (pc + 1 + 1) = .ok (.bipush kz, 2)) (hkz : (Int8.ofInt kz).toInt32 = nI k) (h4 : decode code (pc + 1 + 1 + 2) = .ok (.iadd, 1)) (h5 : decode code (pc + 1 + 1 + 2 + 1) = .ok (.iaload, 1)) (kk : lP κ p l e s mid below meth c0 b (pc + 6) (L0 n) (.int (xs (n + k)) :: st) xF D) : lP κ p l e s mid below meth c0 b pc (L0 n) st xF D := by
  have hL := C.2.2.2.2.2.2.2.2.2.2.2.2
  refine l_aload C h1 rfl ?_
  refine l_iload C h2 rfl ?_
  refine l_bipush C h3 hkz ?_
  refine l_iadd C h4 ?_
  rw [nI_add]
  refine l_sld C h5 (vp_in_nI (by omega) (by omega)) ?_
  rw [nI_clamp (by omega)]
  exact kk
theorem l_bz {x : Int32} (C : lC κ p s mid meth c0 b Ln xs) (h1 : decode code pc = .ok (.ifCond .eq 7, 3)) (h2 : decode code (pc + 3) = .ok (.iconst 1, 1)) (h3 : decode code (pc + 3 + 1) = .ok (.goto 4, 3)) (h4 : decode code (pc + 7) = .ok (.iconst 0, 1)) (kk : lP κ p l e s mid below meth c0 b (pc + 8) L (.int (bz x) :: st) xF D) : lP κ p l e s mid below meth c0 b pc L (.int x :: st) xF D := by
  refine l_if_eq (tgt := pc + 7) C h1 (by omega) (fun c => ?_) (fun c => ?_)
  · refine l_iconst (v := 0) C h4 rfl ?_
    have : bz x = 0 := if_pos c
    rw [this] at kk
    exact kk
  · refine l_iconst (v := 1) C h2 rfl ?_
    refine l_goto (tgt := pc + 8) C h3 (by omega) ?_
    have : bz x = 1 := if_neg c
    rw [this] at kk
    exact kk
theorem l_vi {d : Nat} {y : xM} {i na bb cc : Nat} {As : List Value} (C : lC κ p s mid meth c0 b Ln xs) (hlk : xIn (.methodLink R_law i y.1)) (hv : xVf y na cc) (hc : xk bb = cc) (hcc : cc < 999) (hn : As.length = na)
    (hst : stk = As.reverse ++ .ref bb :: st) (hW : (st.map fun v => v.category).sum ≤ 8) (he : decode code pc = .ok (.invokevirtual i, 3)) (hd : d ≤ 1000) (hC : xCi d y (.ref bb :: As) D (fun x D' => lP κ p l e s mid below meth c0 b (pc + 3) L (.int x :: st) xF D')) : lP κ p l e s mid below meth c0 b pc L stk xF D :=
  l_callV C hlk hv hc (xlt hc hcc) hn hst hW he hd (Nat.le_refl _) (Nat.le_of_ble_eq_true rfl) xS_F hC (fun r D' ⟨x, hx, hp⟩ => by subst hx; exact hp)
theorem l_vl {d : Nat} {y : xM} {i na bb cc : Nat} {As : List Value} (C : lC κ p s mid meth c0 b Ln xs) (hlk : xIn (.methodLink R_law i y.1)) (hv : xVf y na cc) (hc : xk bb = cc) (hcc : cc < 999) (hn : As.length = na)
    (hst : stk = As.reverse ++ .ref bb :: st) (hW : (st.map fun v => v.category).sum ≤ 8) (he : decode code pc = .ok (.invokevirtual i, 3)) (hd : d ≤ 1000) (hC : xCl d y (.ref bb :: As) D (fun x D' => lP κ p l e s mid below meth c0 b (pc + 3) L (.long x :: st) xF D')) : lP κ p l e s mid below meth c0 b pc L stk xF D :=
  l_callV C hlk hv hc (xlt hc hcc) hn hst hW he hd (Nat.le_refl _) (Nat.le_of_ble_eq_true rfl) xS_F hC (fun r D' ⟨x, hx, hp⟩ => by subst hx; exact hp)
theorem lw_case_0 (C : lC κ p s mid meth c0 b Ln xs) (hn : n + 8 ≤ Ln) (hI : bI D g) (kk : ∀ (D' : xD) (g' : gS), bI D' g' → lP κ p l e s mid below meth c0 b 1916 (L0 n) [] xF D') : lP κ p l e s mid below meth c0 b 192 (L0 n) [] xF D := by
  refine l_aload C dl_192 rfl ?_
  refine l_arg (k := 1) C hn (by omega) dl_193 dl_194 dl_195 rfl dl_196 dl_197 ?_
  refine l_arg (k := 2) C hn (by omega) dl_198 dl_199 dl_200 rfl dl_201 dl_202 ?_
  refine l_arg (k := 3) C hn (by omega) dl_203 dl_204 dl_205 rfl dl_206 dl_207 ?_
  refine l_arg (k := 4) C hn (by omega) dl_208 dl_209 dl_210 rfl dl_211 dl_212 ?_
  refine l_arg (k := 5) C hn (by omega) dl_213 dl_214 dl_215 rfl dl_216 dl_217 ?_
  refine l_vi (d := 40) (y := m_S_feed) (As := [.int (xs (n + 1)), .int (xs (n + 2)), .int (xs (n + 3)), .int (xs (n + 4)), .int (xs (n + 5))]) (st := []) C wd_480 vf_S_feed xk_0 (by decide) rfl rfl (Nat.le_of_ble_eq_true rfl) dl_218 (by decide) (b_S_feed (d := 0) hI (fun D1 h1 => ?_))
  refine l_aload C dl_221 rfl ?_
  refine l_arg (k := 1) C hn (by omega) dl_222 dl_223 dl_224 rfl dl_225 dl_226 ?_
  refine l_arg (k := 2) C hn (by omega) dl_227 dl_228 dl_229 rfl dl_230 dl_231 ?_
  refine l_arg (k := 3) C hn (by omega) dl_232 dl_233 dl_234 rfl dl_235 dl_236 ?_
  refine l_arg (k := 4) C hn (by omega) dl_237 dl_238 dl_239 rfl dl_240 dl_241 ?_
  refine l_arg (k := 5) C hn (by omega) dl_242 dl_243 dl_244 rfl dl_245 dl_246 ?_
  refine l_vi (d := 40) (y := m_M_feed) (As := [.int (xs (n + 1)), .int (xs (n + 2)), .int (xs (n + 3)), .int (xs (n + 4)), .int (xs (n + 5))]) (st := [_]) C wd_1766 vf_M_feed xk_M (by decide) rfl rfl (Nat.le_of_ble_eq_true rfl) dl_247 (by decide) (b_M_feed (d := 0) h1.1 h1.2 (fun D2 h2 => ?_))
  exact l_icmp_eq (tgt := 1916) C dl_250 (by decide) (fun _ => kk D2 _ h2) (fun c => absurd rfl c)
theorem lw_case_1 (C : lC κ p s mid meth c0 b Ln xs) (hn : n + 8 ≤ Ln) (hI : bI D g) (kk : ∀ (D' : xD) (g' : gS), bI D' g' → lP κ p l e s mid below meth c0 b 1916 (L0 n) [] xF D') : lP κ p l e s mid below meth c0 b 255 (L0 n) [] xF D := by
  refine l_aload C dl_255 rfl ?_
  refine l_arg (k := 1) C hn (by omega) dl_256 dl_257 dl_258 rfl dl_259 dl_260 ?_
  refine l_vi (d := 40) (y := m_S_end) (As := [.int (xs (n + 1))]) (st := []) C wd_493 vf_S_end xk_0 (by decide) rfl rfl (Nat.le_of_ble_eq_true rfl) dl_261 (by decide) (b_S_end (d := 0) hI (fun D1 h1 => ?_))
  refine l_aload C dl_264 rfl ?_
  refine l_arg (k := 1) C hn (by omega) dl_265 dl_266 dl_267 rfl dl_268 dl_269 ?_
  refine l_vi (d := 40) (y := m_M_end) (As := [.int (xs (n + 1))]) (st := [_]) C wd_1774 vf_M_end xk_M (by decide) rfl rfl (Nat.le_of_ble_eq_true rfl) dl_270 (by decide) (b_M_end (d := 0) h1.1 h1.2 (fun D2 h2 => ?_))
  exact l_icmp_eq (tgt := 1916) C dl_273 (by decide) (fun _ => kk D2 _ h2) (fun c => absurd rfl c)
theorem lw_case_2 (C : lC κ p s mid meth c0 b Ln xs) (hn : n + 8 ≤ Ln) (hI : bI D g) (kk : ∀ (D' : xD) (g' : gS), bI D' g' → lP κ p l e s mid below meth c0 b 1916 (L0 n) [] xF D') : lP κ p l e s mid below meth c0 b 278 (L0 n) [] xF D := by
  refine l_aload C dl_278 rfl ?_
  refine l_arg (k := 1) C hn (by omega) dl_279 dl_280 dl_281 rfl dl_282 dl_283 ?_
  refine l_arg (k := 2) C hn (by omega) dl_284 dl_285 dl_286 rfl dl_287 dl_288 ?_
  refine l_vi (d := 40) (y := m_S_text) (As := [.int (xs (n + 1)), .int (xs (n + 2))]) (st := []) C wd_501 vf_S_text xk_0 (by decide) rfl rfl (Nat.le_of_ble_eq_true rfl) dl_289 (by decide) (b_S_text (d := 0) hI (fun D1 h1 => ?_))
  refine l_aload C dl_292 rfl ?_
  refine l_arg (k := 1) C hn (by omega) dl_293 dl_294 dl_295 rfl dl_296 dl_297 ?_
  refine l_arg (k := 2) C hn (by omega) dl_298 dl_299 dl_300 rfl dl_301 dl_302 ?_
  refine l_vi (d := 40) (y := m_M_text) (As := [.int (xs (n + 1)), .int (xs (n + 2))]) (st := [_]) C wd_1781 vf_M_text xk_M (by decide) rfl rfl (Nat.le_of_ble_eq_true rfl) dl_303 (by decide) (b_M_text (d := 0) h1.1 h1.2 (fun D2 h2 => ?_))
  exact l_icmp_eq (tgt := 1916) C dl_306 (by decide) (fun _ => kk D2 _ h2) (fun c => absurd rfl c)
theorem lw_case_3 (C : lC κ p s mid meth c0 b Ln xs) (hn : n + 8 ≤ Ln) (hI : bI D g) (kk : ∀ (D' : xD) (g' : gS), bI D' g' → lP κ p l e s mid below meth c0 b 1916 (L0 n) [] xF D') : lP κ p l e s mid below meth c0 b 311 (L0 n) [] xF D := by
  refine l_aload C dl_311 rfl ?_
  refine l_arg (k := 1) C hn (by omega) dl_312 dl_313 dl_314 rfl dl_315 dl_316 ?_
  refine l_vi (d := 40) (y := m_S_fault) (As := [.int (xs (n + 1))]) (st := []) C wd_807 vf_S_fault xk_0 (by decide) rfl rfl (Nat.le_of_ble_eq_true rfl) dl_317 (by decide) (b_S_fault (d := 0) hI (fun D1 h1 => ?_))
  refine l_aload C dl_320 rfl ?_
  refine l_arg (k := 1) C hn (by omega) dl_321 dl_322 dl_323 rfl dl_324 dl_325 ?_
  refine l_vi (d := 40) (y := m_M_fault) (As := [.int (xs (n + 1))]) (st := [_]) C wd_1906 vf_M_fault xk_M (by decide) rfl rfl (Nat.le_of_ble_eq_true rfl) dl_326 (by decide) (b_M_fault (d := 0) h1.1 h1.2 (fun D2 h2 => ?_))
  exact l_icmp_eq (tgt := 1916) C dl_329 (by decide) (fun _ => kk D2 _ h2) (fun c => absurd rfl c)
theorem lw_case_4 (C : lC κ p s mid meth c0 b Ln xs) (hn : n + 8 ≤ Ln) (hI : bI D g) (kk : ∀ (D' : xD) (g' : gS), bI D' g' → lP κ p l e s mid below meth c0 b 1916 (L0 n) [] xF D') : lP κ p l e s mid below meth c0 b 334 (L0 n) [] xF D := by
  refine l_aload C dl_334 rfl ?_
  refine l_arg (k := 1) C hn (by omega) dl_335 dl_336 dl_337 rfl dl_338 dl_339 ?_
  refine l_arg (k := 2) C hn (by omega) dl_340 dl_341 dl_342 rfl dl_343 dl_344 ?_
  refine l_vi (d := 40) (y := m_S_table) (As := [.int (xs (n + 1)), .int (xs (n + 2))]) (st := []) C wd_811 vf_S_table xk_0 (by decide) rfl rfl (Nat.le_of_ble_eq_true rfl) dl_345 (by decide) (b_S_table (d := 0) hI (fun D1 h1 => ?_))
  refine l_aload C dl_348 rfl ?_
  refine l_arg (k := 1) C hn (by omega) dl_349 dl_350 dl_351 rfl dl_352 dl_353 ?_
  refine l_arg (k := 2) C hn (by omega) dl_354 dl_355 dl_356 rfl dl_357 dl_358 ?_
  refine l_vi (d := 40) (y := m_M_table) (As := [.int (xs (n + 1)), .int (xs (n + 2))]) (st := [_]) C wd_1910 vf_M_table xk_M (by decide) rfl rfl (Nat.le_of_ble_eq_true rfl) dl_359 (by decide) (b_M_table (d := 0) h1.1 h1.2 (fun D2 h2 => ?_))
  exact l_icmp_eq (tgt := 1916) C dl_362 (by decide) (fun _ => kk D2 _ h2) (fun c => absurd rfl c)
theorem lw_case_5 (C : lC κ p s mid meth c0 b Ln xs) (hn : n + 8 ≤ Ln) (hI : bI D g) (kk : ∀ (D' : xD) (g' : gS), bI D' g' → lP κ p l e s mid below meth c0 b 1916 (L0 n) [] xF D') : lP κ p l e s mid below meth c0 b 367 (L0 n) [] xF D := by
  refine l_aload C dl_367 rfl ?_
  refine l_arg (k := 1) C hn (by omega) dl_368 dl_369 dl_370 rfl dl_371 dl_372 ?_
  refine l_arg (k := 2) C hn (by omega) dl_373 dl_374 dl_375 rfl dl_376 dl_377 ?_
  refine l_arg (k := 3) C hn (by omega) dl_378 dl_379 dl_380 rfl dl_381 dl_382 ?_
  refine l_vi (d := 40) (y := m_S_person) (As := [.int (xs (n + 1)), .int (xs (n + 2)), .int (xs (n + 3))]) (st := []) C wd_827 vf_S_person xk_0 (by decide) rfl rfl (Nat.le_of_ble_eq_true rfl) dl_383 (by decide) (b_S_person (d := 0) hI (fun D1 h1 => ?_))
  refine l_aload C dl_386 rfl ?_
  refine l_arg (k := 1) C hn (by omega) dl_387 dl_388 dl_389 rfl dl_390 dl_391 ?_
  refine l_arg (k := 2) C hn (by omega) dl_392 dl_393 dl_394 rfl dl_395 dl_396 ?_
  refine l_arg (k := 3) C hn (by omega) dl_397 dl_398 dl_399 rfl dl_400 dl_401 ?_
  refine l_vi (d := 40) (y := m_M_person) (As := [.int (xs (n + 1)), .int (xs (n + 2)), .int (xs (n + 3))]) (st := [_]) C wd_1930 vf_M_person xk_M (by decide) rfl rfl (Nat.le_of_ble_eq_true rfl) dl_402 (by decide) (b_M_person (d := 0) h1.1 h1.2 (fun D2 h2 => ?_))
  exact l_icmp_eq (tgt := 1916) C dl_405 (by decide) (fun _ => kk D2 _ h2) (fun c => absurd rfl c)
theorem lw_case_6 (C : lC κ p s mid meth c0 b Ln xs) (hn : n + 8 ≤ Ln) (hI : bI D g) (kk : ∀ (D' : xD) (g' : gS), bI D' g' → lP κ p l e s mid below meth c0 b 1916 (L0 n) [] xF D') : lP κ p l e s mid below meth c0 b 410 (L0 n) [] xF D := by
  refine l_aload C dl_410 rfl ?_
  refine l_arg (k := 1) C hn (by omega) dl_411 dl_412 dl_413 rfl dl_414 dl_415 ?_
  refine l_arg (k := 2) C hn (by omega) dl_416 dl_417 dl_418 rfl dl_419 dl_420 ?_
  refine l_vi (d := 40) (y := m_S_card) (As := [.int (xs (n + 1)), .int (xs (n + 2))]) (st := []) C wd_839 vf_S_card xk_0 (by decide) rfl rfl (Nat.le_of_ble_eq_true rfl) dl_421 (by decide) (b_S_card (d := 0) hI (fun D1 h1 => ?_))
  refine l_aload C dl_424 rfl ?_
  refine l_arg (k := 1) C hn (by omega) dl_425 dl_426 dl_427 rfl dl_428 dl_429 ?_
  refine l_arg (k := 2) C hn (by omega) dl_430 dl_431 dl_432 rfl dl_433 dl_434 ?_
  refine l_vi (d := 40) (y := m_M_card) (As := [.int (xs (n + 1)), .int (xs (n + 2))]) (st := [_]) C wd_1938 vf_M_card xk_M (by decide) rfl rfl (Nat.le_of_ble_eq_true rfl) dl_435 (by decide) (b_M_card (d := 0) h1.1 h1.2 (fun D2 h2 => ?_))
  exact l_icmp_eq (tgt := 1916) C dl_438 (by decide) (fun _ => kk D2 _ h2) (fun c => absurd rfl c)
theorem lw_case_7 (C : lC κ p s mid meth c0 b Ln xs) (hn : n + 8 ≤ Ln) (hI : bI D g) (kk : ∀ (D' : xD) (g' : gS), bI D' g' → lP κ p l e s mid below meth c0 b 1916 (L0 n) [] xF D') : lP κ p l e s mid below meth c0 b 443 (L0 n) [] xF D := by
  refine l_aload C dl_443 rfl ?_
  refine l_arg (k := 1) C hn (by omega) dl_444 dl_445 dl_446 rfl dl_447 dl_448 ?_
  refine l_arg (k := 2) C hn (by omega) dl_449 dl_450 dl_451 rfl dl_452 dl_453 ?_
  refine l_vi (d := 40) (y := m_S_fits) (As := [.int (xs (n + 1)), .int (xs (n + 2))]) (st := []) C wd_849 vf_S_fits xk_0 (by decide) rfl rfl (Nat.le_of_ble_eq_true rfl) dl_454 (by decide) (b_S_fits (d := 0) hI (fun D1 h1 => ?_))
  refine l_aload C dl_457 rfl ?_
  refine l_arg (k := 1) C hn (by omega) dl_458 dl_459 dl_460 rfl dl_461 dl_462 ?_
  refine l_arg (k := 2) C hn (by omega) dl_463 dl_464 dl_465 rfl dl_466 dl_467 ?_
  refine l_vi (d := 40) (y := m_M_fits) (As := [.int (xs (n + 1)), .int (xs (n + 2))]) (st := [_]) C wd_1942 vf_M_fits xk_M (by decide) rfl rfl (Nat.le_of_ble_eq_true rfl) dl_468 (by decide) (b_M_fits (d := 0) h1.1 h1.2 (fun D2 h2 => ?_))
  exact l_icmp_eq (tgt := 1916) C dl_471 (by decide) (fun _ => kk D2 _ h2) (fun c => absurd rfl c)
theorem lw_case_8 (C : lC κ p s mid meth c0 b Ln xs) (hn : n + 8 ≤ Ln) (hI : bI D g) (kk : ∀ (D' : xD) (g' : gS), bI D' g' → lP κ p l e s mid below meth c0 b 1916 (L0 n) [] xF D') : lP κ p l e s mid below meth c0 b 476 (L0 n) [] xF D := by
  refine l_aload C dl_476 rfl ?_
  refine l_arg (k := 1) C hn (by omega) dl_477 dl_478 dl_479 rfl dl_480 dl_481 ?_
  refine l_arg (k := 2) C hn (by omega) dl_482 dl_483 dl_484 rfl dl_485 dl_486 ?_
  refine l_arg (k := 3) C hn (by omega) dl_487 dl_488 dl_489 rfl dl_490 dl_491 ?_
  refine l_vi (d := 40) (y := m_S_deed) (As := [.int (xs (n + 1)), .int (xs (n + 2)), .int (xs (n + 3))]) (st := []) C wd_864 vf_S_deed xk_0 (by decide) rfl rfl (Nat.le_of_ble_eq_true rfl) dl_492 (by decide) (b_S_deed (d := 0) hI (fun D1 h1 => ?_))
  refine l_aload C dl_495 rfl ?_
  refine l_arg (k := 1) C hn (by omega) dl_496 dl_497 dl_498 rfl dl_499 dl_500 ?_
  refine l_arg (k := 2) C hn (by omega) dl_501 dl_502 dl_503 rfl dl_504 dl_505 ?_
  refine l_arg (k := 3) C hn (by omega) dl_506 dl_507 dl_508 rfl dl_509 dl_510 ?_
  refine l_vi (d := 40) (y := m_M_deed) (As := [.int (xs (n + 1)), .int (xs (n + 2)), .int (xs (n + 3))]) (st := [_]) C wd_1950 vf_M_deed xk_M (by decide) rfl rfl (Nat.le_of_ble_eq_true rfl) dl_511 (by decide) (b_M_deed (d := 0) h1.1 h1.2 (fun D2 h2 => ?_))
  exact l_icmp_eq (tgt := 1916) C dl_514 (by decide) (fun _ => kk D2 _ h2) (fun c => absurd rfl c)
theorem lw_case_9 (C : lC κ p s mid meth c0 b Ln xs) (hn : n + 8 ≤ Ln) (hI : bI D g) (kk : ∀ (D' : xD) (g' : gS), bI D' g' → lP κ p l e s mid below meth c0 b 1916 (L0 n) [] xF D') : lP κ p l e s mid below meth c0 b 519 (L0 n) [] xF D := by
  refine l_aload C dl_519 rfl ?_
  refine l_arg (k := 1) C hn (by omega) dl_520 dl_521 dl_522 rfl dl_523 dl_524 ?_
  refine l_arg (k := 2) C hn (by omega) dl_525 dl_526 dl_527 rfl dl_528 dl_529 ?_
  refine l_arg (k := 3) C hn (by omega) dl_530 dl_531 dl_532 rfl dl_533 dl_534 ?_
  refine l_vi (d := 40) (y := m_S_stop) (As := [.int (xs (n + 1)), .int (xs (n + 2)), .int (xs (n + 3))]) (st := []) C wd_872 vf_S_stop xk_0 (by decide) rfl rfl (Nat.le_of_ble_eq_true rfl) dl_535 (by decide) (b_S_stop (d := 0) hI (fun D1 h1 => ?_))
  refine l_aload C dl_538 rfl ?_
  refine l_arg (k := 1) C hn (by omega) dl_539 dl_540 dl_541 rfl dl_542 dl_543 ?_
  refine l_arg (k := 2) C hn (by omega) dl_544 dl_545 dl_546 rfl dl_547 dl_548 ?_
  refine l_arg (k := 3) C hn (by omega) dl_549 dl_550 dl_551 rfl dl_552 dl_553 ?_
  refine l_vi (d := 40) (y := m_M_stop) (As := [.int (xs (n + 1)), .int (xs (n + 2)), .int (xs (n + 3))]) (st := [_]) C wd_1966 vf_M_stop xk_M (by decide) rfl rfl (Nat.le_of_ble_eq_true rfl) dl_554 (by decide) (b_M_stop (d := 0) h1.1 h1.2 (fun D2 h2 => ?_))
  exact l_icmp_eq (tgt := 1916) C dl_557 (by decide) (fun _ => kk D2 _ h2) (fun c => absurd rfl c)
theorem lw_case_10 (C : lC κ p s mid meth c0 b Ln xs) (hn : n + 8 ≤ Ln) (hI : bI D g) (kk : ∀ (D' : xD) (g' : gS), bI D' g' → lP κ p l e s mid below meth c0 b 1916 (L0 n) [] xF D') : lP κ p l e s mid below meth c0 b 562 (L0 n) [] xF D := by
  refine l_aload C dl_562 rfl ?_
  refine l_arg (k := 1) C hn (by omega) dl_563 dl_564 dl_565 rfl dl_566 dl_567 ?_
  refine l_arg (k := 2) C hn (by omega) dl_568 dl_569 dl_570 rfl dl_571 dl_572 ?_
  refine l_arg (k := 3) C hn (by omega) dl_573 dl_574 dl_575 rfl dl_576 dl_577 ?_
  refine l_arg (k := 4) C hn (by omega) dl_578 dl_579 dl_580 rfl dl_581 dl_582 ?_
  refine l_arg (k := 5) C hn (by omega) dl_583 dl_584 dl_585 rfl dl_586 dl_587 ?_
  refine l_vi (d := 40) (y := m_S_state) (As := [.int (xs (n + 1)), .int (xs (n + 2)), .int (xs (n + 3)), .int (xs (n + 4)), .int (xs (n + 5))]) (st := []) C wd_953 vf_S_state xk_0 (by decide) rfl rfl (Nat.le_of_ble_eq_true rfl) dl_588 (by decide) (b_S_state (d := 0) hI (fun D1 h1 => ?_))
  refine l_aload C dl_591 rfl ?_
  refine l_arg (k := 1) C hn (by omega) dl_592 dl_593 dl_594 rfl dl_595 dl_596 ?_
  refine l_arg (k := 2) C hn (by omega) dl_597 dl_598 dl_599 rfl dl_600 dl_601 ?_
  refine l_arg (k := 3) C hn (by omega) dl_602 dl_603 dl_604 rfl dl_605 dl_606 ?_
  refine l_arg (k := 4) C hn (by omega) dl_607 dl_608 dl_609 rfl dl_610 dl_611 ?_
  refine l_arg (k := 5) C hn (by omega) dl_612 dl_613 dl_614 rfl dl_615 dl_616 ?_
  refine l_vi (d := 40) (y := m_M_state) (As := [.int (xs (n + 1)), .int (xs (n + 2)), .int (xs (n + 3)), .int (xs (n + 4)), .int (xs (n + 5))]) (st := [_]) C wd_2014 vf_M_state xk_M (by decide) rfl rfl (Nat.le_of_ble_eq_true rfl) dl_617 (by decide) (b_M_state (d := 0) h1.1 h1.2 (fun D2 h2 => ?_))
  exact l_icmp_eq (tgt := 1916) C dl_620 (by decide) (fun _ => kk D2 _ h2) (fun c => absurd rfl c)
theorem lw_case_11 (C : lC κ p s mid meth c0 b Ln xs) (hn : n + 8 ≤ Ln) (hI : bI D g) (kk : ∀ (D' : xD) (g' : gS), bI D' g' → lP κ p l e s mid below meth c0 b 1916 (L0 n) [] xF D') : lP κ p l e s mid below meth c0 b 625 (L0 n) [] xF D := by
  refine l_aload C dl_625 rfl ?_
  refine l_arg (k := 1) C hn (by omega) dl_626 dl_627 dl_628 rfl dl_629 dl_630 ?_
  refine l_arg (k := 2) C hn (by omega) dl_631 dl_632 dl_633 rfl dl_634 dl_635 ?_
  refine l_arg (k := 3) C hn (by omega) dl_636 dl_637 dl_638 rfl dl_639 dl_640 ?_
  refine l_arg (k := 4) C hn (by omega) dl_641 dl_642 dl_643 rfl dl_644 dl_645 ?_
  refine l_arg (k := 5) C hn (by omega) dl_646 dl_647 dl_648 rfl dl_649 dl_650 ?_
  refine l_argb (k := 6) C hn (by omega) dl_651 dl_652 dl_653 rfl dl_655 dl_656 ?_
  refine l_vi (d := 40) (y := m_S_holds) (As := [.int (xs (n + 1)), .int (xs (n + 2)), .int (xs (n + 3)), .int (xs (n + 4)), .int (xs (n + 5)), .int (xs (n + 6))]) (st := []) C wd_977 vf_S_holds xk_0 (by decide) rfl rfl (Nat.le_of_ble_eq_true rfl) dl_657 (by decide) (b_S_holds (d := 0) hI (fun D1 h1 => ?_))
  refine l_aload C dl_660 rfl ?_
  refine l_arg (k := 1) C hn (by omega) dl_661 dl_662 dl_663 rfl dl_664 dl_665 ?_
  refine l_arg (k := 2) C hn (by omega) dl_666 dl_667 dl_668 rfl dl_669 dl_670 ?_
  refine l_arg (k := 3) C hn (by omega) dl_671 dl_672 dl_673 rfl dl_674 dl_675 ?_
  refine l_arg (k := 4) C hn (by omega) dl_676 dl_677 dl_678 rfl dl_679 dl_680 ?_
  refine l_arg (k := 5) C hn (by omega) dl_681 dl_682 dl_683 rfl dl_684 dl_685 ?_
  refine l_argb (k := 6) C hn (by omega) dl_686 dl_687 dl_688 rfl dl_690 dl_691 ?_
  refine l_vi (d := 40) (y := m_M_holds) (As := [.int (xs (n + 1)), .int (xs (n + 2)), .int (xs (n + 3)), .int (xs (n + 4)), .int (xs (n + 5)), .int (xs (n + 6))]) (st := [_]) C wd_2022 vf_M_holds xk_M (by decide) rfl rfl (Nat.le_of_ble_eq_true rfl) dl_692 (by decide) (b_M_holds (d := 0) h1.1 h1.2 (fun D2 h2 => ?_))
  exact l_icmp_eq (tgt := 1916) C dl_695 (by decide) (fun _ => kk D2 _ h2) (fun c => absurd rfl c)
theorem lw_case_12 (C : lC κ p s mid meth c0 b Ln xs) (hn : n + 8 ≤ Ln) (hI : bI D g) (kk : ∀ (D' : xD) (g' : gS), bI D' g' → lP κ p l e s mid below meth c0 b 1916 (L0 n) [] xF D') : lP κ p l e s mid below meth c0 b 700 (L0 n) [] xF D := by
  refine l_aload C dl_700 rfl ?_
  refine l_arg (k := 1) C hn (by omega) dl_701 dl_702 dl_703 rfl dl_704 dl_705 ?_
  refine l_arg (k := 2) C hn (by omega) dl_706 dl_707 dl_708 rfl dl_709 dl_710 ?_
  refine l_arg (k := 3) C hn (by omega) dl_711 dl_712 dl_713 rfl dl_714 dl_715 ?_
  refine l_vi (d := 40) (y := m_S_round) (As := [.int (xs (n + 1)), .int (xs (n + 2)), .int (xs (n + 3))]) (st := []) C wd_987 vf_S_round xk_0 (by decide) rfl rfl (Nat.le_of_ble_eq_true rfl) dl_716 (by decide) (b_S_round (d := 0) hI (fun D1 h1 => ?_))
  refine l_aload C dl_719 rfl ?_
  refine l_arg (k := 1) C hn (by omega) dl_720 dl_721 dl_722 rfl dl_723 dl_724 ?_
  refine l_arg (k := 2) C hn (by omega) dl_725 dl_726 dl_727 rfl dl_728 dl_729 ?_
  refine l_arg (k := 3) C hn (by omega) dl_730 dl_731 dl_732 rfl dl_733 dl_734 ?_
  refine l_vi (d := 40) (y := m_M_round) (As := [.int (xs (n + 1)), .int (xs (n + 2)), .int (xs (n + 3))]) (st := [_]) C wd_2030 vf_M_round xk_M (by decide) rfl rfl (Nat.le_of_ble_eq_true rfl) dl_735 (by decide) (b_M_round (d := 0) h1.1 h1.2 (fun D2 h2 => ?_))
  exact l_icmp_eq (tgt := 1916) C dl_738 (by decide) (fun _ => kk D2 _ h2) (fun c => absurd rfl c)
theorem lw_case_13 (C : lC κ p s mid meth c0 b Ln xs) (hn : n + 8 ≤ Ln) (hI : bI D g) (kk : ∀ (D' : xD) (g' : gS), bI D' g' → lP κ p l e s mid below meth c0 b 1916 (L0 n) [] xF D') : lP κ p l e s mid below meth c0 b 743 (L0 n) [] xF D := by
  refine l_aload C dl_743 rfl ?_
  refine l_arg (k := 1) C hn (by omega) dl_744 dl_745 dl_746 rfl dl_747 dl_748 ?_
  refine l_arg (k := 2) C hn (by omega) dl_749 dl_750 dl_751 rfl dl_752 dl_753 ?_
  refine l_arg (k := 3) C hn (by omega) dl_754 dl_755 dl_756 rfl dl_757 dl_758 ?_
  refine l_arg (k := 4) C hn (by omega) dl_759 dl_760 dl_761 rfl dl_762 dl_763 ?_
  refine l_arg (k := 5) C hn (by omega) dl_764 dl_765 dl_766 rfl dl_767 dl_768 ?_
  refine l_vi (d := 40) (y := m_S_behind) (As := [.int (xs (n + 1)), .int (xs (n + 2)), .int (xs (n + 3)), .int (xs (n + 4)), .int (xs (n + 5))]) (st := []) C wd_1085 vf_S_behind xk_0 (by decide) rfl rfl (Nat.le_of_ble_eq_true rfl) dl_769 (by decide) (b_S_behind (d := 0) hI (fun D1 h1 => ?_))
  refine l_aload C dl_772 rfl ?_
  refine l_arg (k := 1) C hn (by omega) dl_773 dl_774 dl_775 rfl dl_776 dl_777 ?_
  refine l_arg (k := 2) C hn (by omega) dl_778 dl_779 dl_780 rfl dl_781 dl_782 ?_
  refine l_arg (k := 3) C hn (by omega) dl_783 dl_784 dl_785 rfl dl_786 dl_787 ?_
  refine l_arg (k := 4) C hn (by omega) dl_788 dl_789 dl_790 rfl dl_791 dl_792 ?_
  refine l_arg (k := 5) C hn (by omega) dl_793 dl_794 dl_795 rfl dl_796 dl_797 ?_
  refine l_vi (d := 40) (y := m_M_behind) (As := [.int (xs (n + 1)), .int (xs (n + 2)), .int (xs (n + 3)), .int (xs (n + 4)), .int (xs (n + 5))]) (st := [_]) C wd_2078 vf_M_behind xk_M (by decide) rfl rfl (Nat.le_of_ble_eq_true rfl) dl_798 (by decide) (b_M_behind (d := 0) h1.1 h1.2 (fun D2 h2 => ?_))
  exact l_icmp_eq (tgt := 1916) C dl_801 (by decide) (fun _ => kk D2 _ h2) (fun c => absurd rfl c)
theorem lw_case_14 (C : lC κ p s mid meth c0 b Ln xs) (hn : n + 8 ≤ Ln) (hI : bI D g) (kk : ∀ (D' : xD) (g' : gS), bI D' g' → lP κ p l e s mid below meth c0 b 1916 (L0 n) [] xF D') : lP κ p l e s mid below meth c0 b 806 (L0 n) [] xF D := by
  refine l_aload C dl_806 rfl ?_
  refine l_arg (k := 1) C hn (by omega) dl_807 dl_808 dl_809 rfl dl_810 dl_811 ?_
  refine l_arg (k := 2) C hn (by omega) dl_812 dl_813 dl_814 rfl dl_815 dl_816 ?_
  refine l_arg (k := 3) C hn (by omega) dl_817 dl_818 dl_819 rfl dl_820 dl_821 ?_
  refine l_vi (d := 40) (y := m_S_shuffled) (As := [.int (xs (n + 1)), .int (xs (n + 2)), .int (xs (n + 3))]) (st := []) C wd_1090 vf_S_shuffled xk_0 (by decide) rfl rfl (Nat.le_of_ble_eq_true rfl) dl_822 (by decide) (b_S_shuffled (d := 0) hI (fun D1 h1 => ?_))
  refine l_aload C dl_825 rfl ?_
  refine l_arg (k := 1) C hn (by omega) dl_826 dl_827 dl_828 rfl dl_829 dl_830 ?_
  refine l_arg (k := 2) C hn (by omega) dl_831 dl_832 dl_833 rfl dl_834 dl_835 ?_
  refine l_arg (k := 3) C hn (by omega) dl_836 dl_837 dl_838 rfl dl_839 dl_840 ?_
  refine l_vi (d := 40) (y := m_M_shuffled) (As := [.int (xs (n + 1)), .int (xs (n + 2)), .int (xs (n + 3))]) (st := [_]) C wd_2082 vf_M_shuffled xk_M (by decide) rfl rfl (Nat.le_of_ble_eq_true rfl) dl_841 (by decide) (b_M_shuffled (d := 0) h1.1 h1.2 (fun D2 h2 => ?_))
  exact l_icmp_eq (tgt := 1916) C dl_844 (by decide) (fun _ => kk D2 _ h2) (fun c => absurd rfl c)
theorem lw_case_15 (C : lC κ p s mid meth c0 b Ln xs) (hn : n + 8 ≤ Ln) (hI : bI D g) (kk : ∀ (D' : xD) (g' : gS), bI D' g' → lP κ p l e s mid below meth c0 b 1916 (L0 n) [] xF D') : lP κ p l e s mid below meth c0 b 849 (L0 n) [] xF D := by
  refine l_aload C dl_849 rfl ?_
  refine l_arg (k := 1) C hn (by omega) dl_850 dl_851 dl_852 rfl dl_853 dl_854 ?_
  refine l_arg (k := 2) C hn (by omega) dl_855 dl_856 dl_857 rfl dl_858 dl_859 ?_
  refine l_arg (k := 3) C hn (by omega) dl_860 dl_861 dl_862 rfl dl_863 dl_864 ?_
  refine l_vi (d := 40) (y := m_S_evening) (As := [.int (xs (n + 1)), .int (xs (n + 2)), .int (xs (n + 3))]) (st := []) C wd_1117 vf_S_evening xk_0 (by decide) rfl rfl (Nat.le_of_ble_eq_true rfl) dl_865 (by decide) (b_S_evening (d := 0) hI (fun D1 h1 => ?_))
  refine l_aload C dl_868 rfl ?_
  refine l_arg (k := 1) C hn (by omega) dl_869 dl_870 dl_871 rfl dl_872 dl_873 ?_
  refine l_arg (k := 2) C hn (by omega) dl_874 dl_875 dl_876 rfl dl_877 dl_878 ?_
  refine l_arg (k := 3) C hn (by omega) dl_879 dl_880 dl_881 rfl dl_882 dl_883 ?_
  refine l_vi (d := 40) (y := m_M_evening) (As := [.int (xs (n + 1)), .int (xs (n + 2)), .int (xs (n + 3))]) (st := [_]) C wd_2095 vf_M_evening xk_M (by decide) rfl rfl (Nat.le_of_ble_eq_true rfl) dl_884 (by decide) (b_M_evening (d := 0) h1.1 h1.2 (fun D2 h2 => ?_))
  exact l_icmp_eq (tgt := 1916) C dl_887 (by decide) (fun _ => kk D2 _ h2) (fun c => absurd rfl c)
theorem lw_case_16 (C : lC κ p s mid meth c0 b Ln xs) (hn : n + 8 ≤ Ln) (hI : bI D g) (kk : ∀ (D' : xD) (g' : gS), bI D' g' → lP κ p l e s mid below meth c0 b 1916 (L0 n) [] xF D') : lP κ p l e s mid below meth c0 b 892 (L0 n) [] xF D := by
  refine l_aload C dl_892 rfl ?_
  refine l_arg (k := 1) C hn (by omega) dl_893 dl_894 dl_895 rfl dl_896 dl_897 ?_
  refine l_arg (k := 2) C hn (by omega) dl_898 dl_899 dl_900 rfl dl_901 dl_902 ?_
  refine l_arg (k := 3) C hn (by omega) dl_903 dl_904 dl_905 rfl dl_906 dl_907 ?_
  refine l_arg (k := 4) C hn (by omega) dl_908 dl_909 dl_910 rfl dl_911 dl_912 ?_
  refine l_vi (d := 40) (y := m_S_luck) (As := [.int (xs (n + 1)), .int (xs (n + 2)), .int (xs (n + 3)), .int (xs (n + 4))]) (st := []) C wd_1157 vf_S_luck xk_0 (by decide) rfl rfl (Nat.le_of_ble_eq_true rfl) dl_913 (by decide) (b_S_luck (d := 0) hI (fun D1 h1 => ?_))
  refine l_aload C dl_916 rfl ?_
  refine l_arg (k := 1) C hn (by omega) dl_917 dl_918 dl_919 rfl dl_920 dl_921 ?_
  refine l_arg (k := 2) C hn (by omega) dl_922 dl_923 dl_924 rfl dl_925 dl_926 ?_
  refine l_arg (k := 3) C hn (by omega) dl_927 dl_928 dl_929 rfl dl_930 dl_931 ?_
  refine l_arg (k := 4) C hn (by omega) dl_932 dl_933 dl_934 rfl dl_935 dl_936 ?_
  refine l_vi (d := 40) (y := m_M_luck) (As := [.int (xs (n + 1)), .int (xs (n + 2)), .int (xs (n + 3)), .int (xs (n + 4))]) (st := [_]) C wd_2107 vf_M_luck xk_M (by decide) rfl rfl (Nat.le_of_ble_eq_true rfl) dl_937 (by decide) (b_M_luck (d := 0) h1.1 h1.2 (fun D2 h2 => ?_))
  exact l_icmp_eq (tgt := 1916) C dl_940 (by decide) (fun _ => kk D2 _ h2) (fun c => absurd rfl c)
theorem lw_case_17 (C : lC κ p s mid meth c0 b Ln xs) (hn : n + 8 ≤ Ln) (hI : bI D g) (kk : ∀ (D' : xD) (g' : gS), bI D' g' → lP κ p l e s mid below meth c0 b 1916 (L0 n) [] xF D') : lP κ p l e s mid below meth c0 b 945 (L0 n) [] xF D := by
  refine l_aload C dl_945 rfl ?_
  refine l_arg (k := 1) C hn (by omega) dl_946 dl_947 dl_948 rfl dl_949 dl_950 ?_
  refine l_arg (k := 2) C hn (by omega) dl_951 dl_952 dl_953 rfl dl_954 dl_955 ?_
  refine l_arg (k := 3) C hn (by omega) dl_956 dl_957 dl_958 rfl dl_959 dl_960 ?_
  refine l_arg (k := 4) C hn (by omega) dl_961 dl_962 dl_963 rfl dl_964 dl_965 ?_
  refine l_arg (k := 5) C hn (by omega) dl_966 dl_967 dl_968 rfl dl_969 dl_970 ?_
  refine l_argb (k := 6) C hn (by omega) dl_971 dl_972 dl_973 rfl dl_975 dl_976 ?_
  refine l_argb (k := 7) C hn (by omega) dl_977 dl_978 dl_979 rfl dl_981 dl_982 ?_
  refine l_bz C dl_983 dl_986 dl_987 dl_990 ?_
  refine l_vi (d := 40) (y := m_S_otherwise) (As := [.int (xs (n + 1)), .int (xs (n + 2)), .int (xs (n + 3)), .int (xs (n + 4)), .int (xs (n + 5)), .int (xs (n + 6)), .int (bz (xs (n + 7)))]) (st := []) C wd_1174 vf_S_otherwise xk_0 (by decide) rfl rfl (Nat.le_of_ble_eq_true rfl) dl_991 (by decide) (b_S_otherwise (d := 0) hI (fun D1 h1 => ?_))
  refine l_aload C dl_994 rfl ?_
  refine l_arg (k := 1) C hn (by omega) dl_995 dl_996 dl_997 rfl dl_998 dl_999 ?_
  refine l_arg (k := 2) C hn (by omega) dl_1000 dl_1001 dl_1002 rfl dl_1003 dl_1004 ?_
  refine l_arg (k := 3) C hn (by omega) dl_1005 dl_1006 dl_1007 rfl dl_1008 dl_1009 ?_
  refine l_arg (k := 4) C hn (by omega) dl_1010 dl_1011 dl_1012 rfl dl_1013 dl_1014 ?_
  refine l_arg (k := 5) C hn (by omega) dl_1015 dl_1016 dl_1017 rfl dl_1018 dl_1019 ?_
  refine l_argb (k := 6) C hn (by omega) dl_1020 dl_1021 dl_1022 rfl dl_1024 dl_1025 ?_
  refine l_argb (k := 7) C hn (by omega) dl_1026 dl_1027 dl_1028 rfl dl_1030 dl_1031 ?_
  refine l_bz C dl_1032 dl_1035 dl_1036 dl_1039 ?_
  refine l_vi (d := 40) (y := m_M_otherwise) (As := [.int (xs (n + 1)), .int (xs (n + 2)), .int (xs (n + 3)), .int (xs (n + 4)), .int (xs (n + 5)), .int (xs (n + 6)), .int (bz (xs (n + 7)))]) (st := [_]) C wd_2115 vf_M_otherwise xk_M (by decide) rfl rfl (Nat.le_of_ble_eq_true rfl) dl_1040 (by decide) (b_M_otherwise (d := 0) h1.1 h1.2 (fun D2 h2 => ?_))
  exact l_icmp_eq (tgt := 1916) C dl_1043 (by decide) (fun _ => kk D2 _ h2) (fun c => absurd rfl c)
theorem lw_case_18 (C : lC κ p s mid meth c0 b Ln xs) (hn : n + 8 ≤ Ln) (hI : bI D g) (kk : ∀ (D' : xD) (g' : gS), bI D' g' → lP κ p l e s mid below meth c0 b 1916 (L0 n) [] xF D') : lP κ p l e s mid below meth c0 b 1048 (L0 n) [] xF D := by
  refine l_aload C dl_1048 rfl ?_
  refine l_arg (k := 1) C hn (by omega) dl_1049 dl_1050 dl_1051 rfl dl_1052 dl_1053 ?_
  refine l_arg (k := 2) C hn (by omega) dl_1054 dl_1055 dl_1056 rfl dl_1057 dl_1058 ?_
  refine l_vi (d := 40) (y := m_S_hand) (As := [.int (xs (n + 1)), .int (xs (n + 2))]) (st := []) C wd_1208 vf_S_hand xk_0 (by decide) rfl rfl (Nat.le_of_ble_eq_true rfl) dl_1059 (by decide) (b_S_hand (d := 0) hI (fun D1 h1 => ?_))
  refine l_aload C dl_1062 rfl ?_
  refine l_arg (k := 1) C hn (by omega) dl_1063 dl_1064 dl_1065 rfl dl_1066 dl_1067 ?_
  refine l_arg (k := 2) C hn (by omega) dl_1068 dl_1069 dl_1070 rfl dl_1071 dl_1072 ?_
  refine l_vi (d := 40) (y := m_M_hand2) (As := [.int (xs (n + 1)), .int (xs (n + 2))]) (st := [_]) C wd_2139 vf_M_hand2 xk_M (by decide) rfl rfl (Nat.le_of_ble_eq_true rfl) dl_1073 (by decide) (b_M_hand (d := 0) h1.1 h1.2 (fun D2 h2 => ?_))
  exact l_icmp_eq (tgt := 1916) C dl_1076 (by decide) (fun _ => kk D2 _ h2) (fun c => absurd rfl c)
theorem lw_case_19 (C : lC κ p s mid meth c0 b Ln xs) (hn : n + 8 ≤ Ln) (hI : bI D g) (kk : ∀ (D' : xD) (g' : gS), bI D' g' → lP κ p l e s mid below meth c0 b 1916 (L0 n) [] xF D') : lP κ p l e s mid below meth c0 b 1081 (L0 n) [] xF D := by
  refine l_aload C dl_1081 rfl ?_
  refine l_arg (k := 1) C hn (by omega) dl_1082 dl_1083 dl_1084 rfl dl_1085 dl_1086 ?_
  refine l_arg (k := 2) C hn (by omega) dl_1087 dl_1088 dl_1089 rfl dl_1090 dl_1091 ?_
  refine l_arg (k := 3) C hn (by omega) dl_1092 dl_1093 dl_1094 rfl dl_1095 dl_1096 ?_
  refine l_vi (d := 40) (y := m_S_unseen) (As := [.int (xs (n + 1)), .int (xs (n + 2)), .int (xs (n + 3))]) (st := []) C wd_1212 vf_S_unseen xk_0 (by decide) rfl rfl (Nat.le_of_ble_eq_true rfl) dl_1097 (by decide) (b_S_unseen (d := 0) hI (fun D1 h1 => ?_))
  refine l_aload C dl_1100 rfl ?_
  refine l_arg (k := 1) C hn (by omega) dl_1101 dl_1102 dl_1103 rfl dl_1104 dl_1105 ?_
  refine l_arg (k := 2) C hn (by omega) dl_1106 dl_1107 dl_1108 rfl dl_1109 dl_1110 ?_
  refine l_arg (k := 3) C hn (by omega) dl_1111 dl_1112 dl_1113 rfl dl_1114 dl_1115 ?_
  refine l_vi (d := 40) (y := m_M_unseen) (As := [.int (xs (n + 1)), .int (xs (n + 2)), .int (xs (n + 3))]) (st := [_]) C wd_2143 vf_M_unseen xk_M (by decide) rfl rfl (Nat.le_of_ble_eq_true rfl) dl_1116 (by decide) (b_M_unseen (d := 0) h1.1 h1.2 (fun D2 h2 => ?_))
  exact l_icmp_eq (tgt := 1916) C dl_1119 (by decide) (fun _ => kk D2 _ h2) (fun c => absurd rfl c)
theorem lw_case_20 (C : lC κ p s mid meth c0 b Ln xs) (hn : n + 8 ≤ Ln) (hI : bI D g) (kk : ∀ (D' : xD) (g' : gS), bI D' g' → lP κ p l e s mid below meth c0 b 1916 (L0 n) [] xF D') : lP κ p l e s mid below meth c0 b 1124 (L0 n) [] xF D := by
  refine l_aload C dl_1124 rfl ?_
  refine l_arg (k := 1) C hn (by omega) dl_1125 dl_1126 dl_1127 rfl dl_1128 dl_1129 ?_
  refine l_arg (k := 2) C hn (by omega) dl_1130 dl_1131 dl_1132 rfl dl_1133 dl_1134 ?_
  refine l_arg (k := 3) C hn (by omega) dl_1135 dl_1136 dl_1137 rfl dl_1138 dl_1139 ?_
  refine l_arg (k := 4) C hn (by omega) dl_1140 dl_1141 dl_1142 rfl dl_1143 dl_1144 ?_
  refine l_bz C dl_1145 dl_1148 dl_1149 dl_1152 ?_
  refine l_vl (d := 40) (y := m_S_within) (As := [.int (xs (n + 1)), .int (xs (n + 2)), .int (xs (n + 3)), .int (bz (xs (n + 4)))]) (st := []) C wd_1245 vf_S_within xk_0 (by decide) rfl rfl (Nat.le_of_ble_eq_true rfl) dl_1153 (by decide) (b_S_within (d := 0) hI (fun D1 h1 => ?_))
  refine l_aload C dl_1156 rfl ?_
  refine l_arg (k := 1) C hn (by omega) dl_1157 dl_1158 dl_1159 rfl dl_1160 dl_1161 ?_
  refine l_arg (k := 2) C hn (by omega) dl_1162 dl_1163 dl_1164 rfl dl_1165 dl_1166 ?_
  refine l_arg (k := 3) C hn (by omega) dl_1167 dl_1168 dl_1169 rfl dl_1170 dl_1171 ?_
  refine l_arg (k := 4) C hn (by omega) dl_1172 dl_1173 dl_1174 rfl dl_1175 dl_1176 ?_
  refine l_bz C dl_1177 dl_1180 dl_1181 dl_1184 ?_
  refine l_vl (d := 40) (y := m_M_within) (As := [.int (xs (n + 1)), .int (xs (n + 2)), .int (xs (n + 3)), .int (bz (xs (n + 4)))]) (st := [_]) C wd_2155 vf_M_within xk_M (by decide) rfl rfl (Nat.le_of_ble_eq_true rfl) dl_1185 (by decide) (b_M_within (d := 0) h1.1 h1.2 (fun D2 h2 => ?_))
  refine l_lcmp C dl_1188 ?_
  rw [cmp_self]
  exact l_if_eq (tgt := 1916) C dl_1189 (by decide) (fun _ => kk D2 _ h2) (fun c => absurd rfl c)
theorem lw_case_21 (C : lC κ p s mid meth c0 b Ln xs) (hn : n + 8 ≤ Ln) (hI : bI D g) (kk : ∀ (D' : xD) (g' : gS), bI D' g' → lP κ p l e s mid below meth c0 b 1916 (L0 n) [] xF D') : lP κ p l e s mid below meth c0 b 1194 (L0 n) [] xF D := by
  refine l_aload C dl_1194 rfl ?_
  refine l_arg (k := 1) C hn (by omega) dl_1195 dl_1196 dl_1197 rfl dl_1198 dl_1199 ?_
  refine l_arg (k := 2) C hn (by omega) dl_1200 dl_1201 dl_1202 rfl dl_1203 dl_1204 ?_
  refine l_arg (k := 3) C hn (by omega) dl_1205 dl_1206 dl_1207 rfl dl_1208 dl_1209 ?_
  refine l_arg (k := 4) C hn (by omega) dl_1210 dl_1211 dl_1212 rfl dl_1213 dl_1214 ?_
  refine l_vi (d := 40) (y := m_S_kept) (As := [.int (xs (n + 1)), .int (xs (n + 2)), .int (xs (n + 3)), .int (xs (n + 4))]) (st := []) C wd_1292 vf_S_kept xk_0 (by decide) rfl rfl (Nat.le_of_ble_eq_true rfl) dl_1215 (by decide) (b_S_kept (d := 0) hI (fun D1 h1 => ?_))
  refine l_aload C dl_1218 rfl ?_
  refine l_arg (k := 1) C hn (by omega) dl_1219 dl_1220 dl_1221 rfl dl_1222 dl_1223 ?_
  refine l_arg (k := 2) C hn (by omega) dl_1224 dl_1225 dl_1226 rfl dl_1227 dl_1228 ?_
  refine l_arg (k := 3) C hn (by omega) dl_1229 dl_1230 dl_1231 rfl dl_1232 dl_1233 ?_
  refine l_arg (k := 4) C hn (by omega) dl_1234 dl_1235 dl_1236 rfl dl_1237 dl_1238 ?_
  refine l_vi (d := 40) (y := m_M_kept) (As := [.int (xs (n + 1)), .int (xs (n + 2)), .int (xs (n + 3)), .int (xs (n + 4))]) (st := [_]) C wd_2214 vf_M_kept xk_M (by decide) rfl rfl (Nat.le_of_ble_eq_true rfl) dl_1239 (by decide) (b_M_kept (d := 0) h1.1 h1.2 (fun D2 h2 => ?_))
  exact l_icmp_eq (tgt := 1916) C dl_1242 (by decide) (fun _ => kk D2 _ h2) (fun c => absurd rfl c)
theorem lw_case_22 (C : lC κ p s mid meth c0 b Ln xs) (hn : n + 8 ≤ Ln) (hI : bI D g) (kk : ∀ (D' : xD) (g' : gS), bI D' g' → lP κ p l e s mid below meth c0 b 1916 (L0 n) [] xF D') : lP κ p l e s mid below meth c0 b 1247 (L0 n) [] xF D := by
  refine l_aload C dl_1247 rfl ?_
  refine l_arg (k := 1) C hn (by omega) dl_1248 dl_1249 dl_1250 rfl dl_1251 dl_1252 ?_
  refine l_arg (k := 2) C hn (by omega) dl_1253 dl_1254 dl_1255 rfl dl_1256 dl_1257 ?_
  refine l_arg (k := 3) C hn (by omega) dl_1258 dl_1259 dl_1260 rfl dl_1261 dl_1262 ?_
  refine l_arg (k := 4) C hn (by omega) dl_1263 dl_1264 dl_1265 rfl dl_1266 dl_1267 ?_
  refine l_arg (k := 5) C hn (by omega) dl_1268 dl_1269 dl_1270 rfl dl_1271 dl_1272 ?_
  refine l_bz C dl_1273 dl_1276 dl_1277 dl_1280 ?_
  refine l_vl (d := 40) (y := m_S_alone) (As := [.int (xs (n + 1)), .int (xs (n + 2)), .int (xs (n + 3)), .int (xs (n + 4)), .int (bz (xs (n + 5)))]) (st := []) C wd_1300 vf_S_alone xk_0 (by decide) rfl rfl (Nat.le_of_ble_eq_true rfl) dl_1281 (by decide) (b_S_alone (d := 0) hI (fun D1 h1 => ?_))
  refine l_aload C dl_1284 rfl ?_
  refine l_arg (k := 1) C hn (by omega) dl_1285 dl_1286 dl_1287 rfl dl_1288 dl_1289 ?_
  refine l_arg (k := 2) C hn (by omega) dl_1290 dl_1291 dl_1292 rfl dl_1293 dl_1294 ?_
  refine l_arg (k := 3) C hn (by omega) dl_1295 dl_1296 dl_1297 rfl dl_1298 dl_1299 ?_
  refine l_arg (k := 4) C hn (by omega) dl_1300 dl_1301 dl_1302 rfl dl_1303 dl_1304 ?_
  refine l_arg (k := 5) C hn (by omega) dl_1305 dl_1306 dl_1307 rfl dl_1308 dl_1309 ?_
  refine l_bz C dl_1310 dl_1313 dl_1314 dl_1317 ?_
  refine l_vl (d := 40) (y := m_M_alone) (As := [.int (xs (n + 1)), .int (xs (n + 2)), .int (xs (n + 3)), .int (xs (n + 4)), .int (bz (xs (n + 5)))]) (st := [_]) C wd_2218 vf_M_alone xk_M (by decide) rfl rfl (Nat.le_of_ble_eq_true rfl) dl_1318 (by decide) (b_M_alone (d := 0) h1.1 h1.2 (fun D2 h2 => ?_))
  refine l_lcmp C dl_1321 ?_
  rw [cmp_self]
  exact l_if_eq (tgt := 1916) C dl_1322 (by decide) (fun _ => kk D2 _ h2) (fun c => absurd rfl c)
theorem lw_case_23 (C : lC κ p s mid meth c0 b Ln xs) (hn : n + 8 ≤ Ln) (hI : bI D g) (kk : ∀ (D' : xD) (g' : gS), bI D' g' → lP κ p l e s mid below meth c0 b 1916 (L0 n) [] xF D') : lP κ p l e s mid below meth c0 b 1327 (L0 n) [] xF D := by
  refine l_aload C dl_1327 rfl ?_
  refine l_arg (k := 1) C hn (by omega) dl_1328 dl_1329 dl_1330 rfl dl_1331 dl_1332 ?_
  refine l_arg (k := 2) C hn (by omega) dl_1333 dl_1334 dl_1335 rfl dl_1336 dl_1337 ?_
  refine l_arg (k := 3) C hn (by omega) dl_1338 dl_1339 dl_1340 rfl dl_1341 dl_1342 ?_
  refine l_arg (k := 4) C hn (by omega) dl_1343 dl_1344 dl_1345 rfl dl_1346 dl_1347 ?_
  refine l_bz C dl_1348 dl_1351 dl_1352 dl_1355 ?_
  refine l_vi (d := 40) (y := m_S_soonest) (As := [.int (xs (n + 1)), .int (xs (n + 2)), .int (xs (n + 3)), .int (bz (xs (n + 4)))]) (st := []) C wd_1315 vf_S_soonest xk_0 (by decide) rfl rfl (Nat.le_of_ble_eq_true rfl) dl_1356 (by decide) (b_S_soonest (d := 0) hI (fun D1 h1 => ?_))
  refine l_aload C dl_1359 rfl ?_
  refine l_arg (k := 1) C hn (by omega) dl_1360 dl_1361 dl_1362 rfl dl_1363 dl_1364 ?_
  refine l_arg (k := 2) C hn (by omega) dl_1365 dl_1366 dl_1367 rfl dl_1368 dl_1369 ?_
  refine l_arg (k := 3) C hn (by omega) dl_1370 dl_1371 dl_1372 rfl dl_1373 dl_1374 ?_
  refine l_arg (k := 4) C hn (by omega) dl_1375 dl_1376 dl_1377 rfl dl_1378 dl_1379 ?_
  refine l_bz C dl_1380 dl_1383 dl_1384 dl_1387 ?_
  refine l_vi (d := 40) (y := m_M_soonest) (As := [.int (xs (n + 1)), .int (xs (n + 2)), .int (xs (n + 3)), .int (bz (xs (n + 4)))]) (st := [_]) C wd_2229 vf_M_soonest xk_M (by decide) rfl rfl (Nat.le_of_ble_eq_true rfl) dl_1388 (by decide) (b_M_soonest (d := 0) h1.1 h1.2 (fun D2 h2 => ?_))
  exact l_icmp_eq (tgt := 1916) C dl_1391 (by decide) (fun _ => kk D2 _ h2) (fun c => absurd rfl c)
theorem lw_case_24 (C : lC κ p s mid meth c0 b Ln xs) (hn : n + 8 ≤ Ln) (hI : bI D g) (kk : ∀ (D' : xD) (g' : gS), bI D' g' → lP κ p l e s mid below meth c0 b 1916 (L0 n) [] xF D') : lP κ p l e s mid below meth c0 b 1396 (L0 n) [] xF D := by
  refine l_aload C dl_1396 rfl ?_
  refine l_arg (k := 1) C hn (by omega) dl_1397 dl_1398 dl_1399 rfl dl_1400 dl_1401 ?_
  refine l_arg (k := 2) C hn (by omega) dl_1402 dl_1403 dl_1404 rfl dl_1405 dl_1406 ?_
  refine l_arg (k := 3) C hn (by omega) dl_1407 dl_1408 dl_1409 rfl dl_1410 dl_1411 ?_
  refine l_arg (k := 4) C hn (by omega) dl_1412 dl_1413 dl_1414 rfl dl_1415 dl_1416 ?_
  refine l_arg (k := 5) C hn (by omega) dl_1417 dl_1418 dl_1419 rfl dl_1420 dl_1421 ?_
  refine l_bz C dl_1422 dl_1425 dl_1426 dl_1429 ?_
  refine l_vl (d := 40) (y := m_S_keeps) (As := [.int (xs (n + 1)), .int (xs (n + 2)), .int (xs (n + 3)), .int (xs (n + 4)), .int (bz (xs (n + 5)))]) (st := []) C wd_1323 vf_S_keeps xk_0 (by decide) rfl rfl (Nat.le_of_ble_eq_true rfl) dl_1430 (by decide) (b_S_keeps (d := 0) hI (fun D1 h1 => ?_))
  refine l_aload C dl_1433 rfl ?_
  refine l_arg (k := 1) C hn (by omega) dl_1434 dl_1435 dl_1436 rfl dl_1437 dl_1438 ?_
  refine l_arg (k := 2) C hn (by omega) dl_1439 dl_1440 dl_1441 rfl dl_1442 dl_1443 ?_
  refine l_arg (k := 3) C hn (by omega) dl_1444 dl_1445 dl_1446 rfl dl_1447 dl_1448 ?_
  refine l_arg (k := 4) C hn (by omega) dl_1449 dl_1450 dl_1451 rfl dl_1452 dl_1453 ?_
  refine l_arg (k := 5) C hn (by omega) dl_1454 dl_1455 dl_1456 rfl dl_1457 dl_1458 ?_
  refine l_bz C dl_1459 dl_1462 dl_1463 dl_1466 ?_
  refine l_vl (d := 40) (y := m_M_keeps) (As := [.int (xs (n + 1)), .int (xs (n + 2)), .int (xs (n + 3)), .int (xs (n + 4)), .int (bz (xs (n + 5)))]) (st := [_]) C wd_2233 vf_M_keeps xk_M (by decide) rfl rfl (Nat.le_of_ble_eq_true rfl) dl_1467 (by decide) (b_M_keeps (d := 0) h1.1 h1.2 (fun D2 h2 => ?_))
  refine l_lcmp C dl_1470 ?_
  rw [cmp_self]
  exact l_if_eq (tgt := 1916) C dl_1471 (by decide) (fun _ => kk D2 _ h2) (fun c => absurd rfl c)
theorem lw_case_25 (C : lC κ p s mid meth c0 b Ln xs) (hn : n + 8 ≤ Ln) (hI : bI D g) (kk : ∀ (D' : xD) (g' : gS), bI D' g' → lP κ p l e s mid below meth c0 b 1916 (L0 n) [] xF D') : lP κ p l e s mid below meth c0 b 1476 (L0 n) [] xF D := by
  refine l_aload C dl_1476 rfl ?_
  refine l_arg (k := 1) C hn (by omega) dl_1477 dl_1478 dl_1479 rfl dl_1480 dl_1481 ?_
  refine l_arg (k := 2) C hn (by omega) dl_1482 dl_1483 dl_1484 rfl dl_1485 dl_1486 ?_
  refine l_arg (k := 3) C hn (by omega) dl_1487 dl_1488 dl_1489 rfl dl_1490 dl_1491 ?_
  refine l_arg (k := 4) C hn (by omega) dl_1492 dl_1493 dl_1494 rfl dl_1495 dl_1496 ?_
  refine l_vi (d := 40) (y := m_S_looks) (As := [.int (xs (n + 1)), .int (xs (n + 2)), .int (xs (n + 3)), .int (xs (n + 4))]) (st := []) C wd_1331 vf_S_looks xk_0 (by decide) rfl rfl (Nat.le_of_ble_eq_true rfl) dl_1497 (by decide) (b_S_looks (d := 0) hI (fun D1 h1 => ?_))
  refine l_aload C dl_1500 rfl ?_
  refine l_arg (k := 1) C hn (by omega) dl_1501 dl_1502 dl_1503 rfl dl_1504 dl_1505 ?_
  refine l_arg (k := 2) C hn (by omega) dl_1506 dl_1507 dl_1508 rfl dl_1509 dl_1510 ?_
  refine l_arg (k := 3) C hn (by omega) dl_1511 dl_1512 dl_1513 rfl dl_1514 dl_1515 ?_
  refine l_arg (k := 4) C hn (by omega) dl_1516 dl_1517 dl_1518 rfl dl_1519 dl_1520 ?_
  refine l_vi (d := 40) (y := m_M_looks) (As := [.int (xs (n + 1)), .int (xs (n + 2)), .int (xs (n + 3)), .int (xs (n + 4))]) (st := [_]) C wd_2237 vf_M_looks xk_M (by decide) rfl rfl (Nat.le_of_ble_eq_true rfl) dl_1521 (by decide) (b_M_looks (d := 0) h1.1 h1.2 (fun D2 h2 => ?_))
  exact l_icmp_eq (tgt := 1916) C dl_1524 (by decide) (fun _ => kk D2 _ h2) (fun c => absurd rfl c)
theorem lw_case_26 (C : lC κ p s mid meth c0 b Ln xs) (hn : n + 8 ≤ Ln) (hI : bI D g) (kk : ∀ (D' : xD) (g' : gS), bI D' g' → lP κ p l e s mid below meth c0 b 1916 (L0 n) [] xF D') : lP κ p l e s mid below meth c0 b 1529 (L0 n) [] xF D := by
  refine l_aload C dl_1529 rfl ?_
  refine l_arg (k := 1) C hn (by omega) dl_1530 dl_1531 dl_1532 rfl dl_1533 dl_1534 ?_
  refine l_arg (k := 2) C hn (by omega) dl_1535 dl_1536 dl_1537 rfl dl_1538 dl_1539 ?_
  refine l_arg (k := 3) C hn (by omega) dl_1540 dl_1541 dl_1542 rfl dl_1543 dl_1544 ?_
  refine l_vi (d := 40) (y := m_S_often) (As := [.int (xs (n + 1)), .int (xs (n + 2)), .int (xs (n + 3))]) (st := []) C wd_1340 vf_S_often xk_0 (by decide) rfl rfl (Nat.le_of_ble_eq_true rfl) dl_1545 (by decide) (b_S_often (d := 0) hI (fun D1 h1 => ?_))
  refine l_aload C dl_1548 rfl ?_
  refine l_arg (k := 1) C hn (by omega) dl_1549 dl_1550 dl_1551 rfl dl_1552 dl_1553 ?_
  refine l_arg (k := 2) C hn (by omega) dl_1554 dl_1555 dl_1556 rfl dl_1557 dl_1558 ?_
  refine l_arg (k := 3) C hn (by omega) dl_1559 dl_1560 dl_1561 rfl dl_1562 dl_1563 ?_
  refine l_vi (d := 40) (y := m_M_often) (As := [.int (xs (n + 1)), .int (xs (n + 2)), .int (xs (n + 3))]) (st := [_]) C wd_2245 vf_M_often xk_M (by decide) rfl rfl (Nat.le_of_ble_eq_true rfl) dl_1564 (by decide) (b_M_often (d := 0) h1.1 h1.2 (fun D2 h2 => ?_))
  exact l_icmp_eq (tgt := 1916) C dl_1567 (by decide) (fun _ => kk D2 _ h2) (fun c => absurd rfl c)
theorem lw_case_27 (C : lC κ p s mid meth c0 b Ln xs) (hn : n + 8 ≤ Ln) (hI : bI D g) (kk : ∀ (D' : xD) (g' : gS), bI D' g' → lP κ p l e s mid below meth c0 b 1916 (L0 n) [] xF D') : lP κ p l e s mid below meth c0 b 1572 (L0 n) [] xF D := by
  refine l_aload C dl_1572 rfl ?_
  refine l_arg (k := 1) C hn (by omega) dl_1573 dl_1574 dl_1575 rfl dl_1576 dl_1577 ?_
  refine l_arg (k := 2) C hn (by omega) dl_1578 dl_1579 dl_1580 rfl dl_1581 dl_1582 ?_
  refine l_arg (k := 3) C hn (by omega) dl_1583 dl_1584 dl_1585 rfl dl_1586 dl_1587 ?_
  refine l_vi (d := 40) (y := m_S_rests) (As := [.int (xs (n + 1)), .int (xs (n + 2)), .int (xs (n + 3))]) (st := []) C wd_1351 vf_S_rests xk_0 (by decide) rfl rfl (Nat.le_of_ble_eq_true rfl) dl_1588 (by decide) (b_S_rests (d := 0) hI (fun D1 h1 => ?_))
  refine l_aload C dl_1591 rfl ?_
  refine l_arg (k := 1) C hn (by omega) dl_1592 dl_1593 dl_1594 rfl dl_1595 dl_1596 ?_
  refine l_arg (k := 2) C hn (by omega) dl_1597 dl_1598 dl_1599 rfl dl_1600 dl_1601 ?_
  refine l_arg (k := 3) C hn (by omega) dl_1602 dl_1603 dl_1604 rfl dl_1605 dl_1606 ?_
  refine l_vi (d := 40) (y := m_M_rests) (As := [.int (xs (n + 1)), .int (xs (n + 2)), .int (xs (n + 3))]) (st := [_]) C wd_2249 vf_M_rests xk_M (by decide) rfl rfl (Nat.le_of_ble_eq_true rfl) dl_1607 (by decide) (b_M_rests (d := 0) h1.1 h1.2 (fun D2 h2 => ?_))
  exact l_icmp_eq (tgt := 1916) C dl_1610 (by decide) (fun _ => kk D2 _ h2) (fun c => absurd rfl c)
theorem lw_case_28 (C : lC κ p s mid meth c0 b Ln xs) (hn : n + 8 ≤ Ln) (hI : bI D g) (kk : ∀ (D' : xD) (g' : gS), bI D' g' → lP κ p l e s mid below meth c0 b 1916 (L0 n) [] xF D') : lP κ p l e s mid below meth c0 b 1615 (L0 n) [] xF D := by
  refine l_aload C dl_1615 rfl ?_
  refine l_arg (k := 1) C hn (by omega) dl_1616 dl_1617 dl_1618 rfl dl_1619 dl_1620 ?_
  refine l_arg (k := 2) C hn (by omega) dl_1621 dl_1622 dl_1623 rfl dl_1624 dl_1625 ?_
  refine l_vi (d := 40) (y := m_S_even) (As := [.int (xs (n + 1)), .int (xs (n + 2))]) (st := []) C wd_1380 vf_S_even xk_0 (by decide) rfl rfl (Nat.le_of_ble_eq_true rfl) dl_1626 (by decide) (b_S_even (d := 0) hI (fun D1 h1 => ?_))
  refine l_aload C dl_1629 rfl ?_
  refine l_arg (k := 1) C hn (by omega) dl_1630 dl_1631 dl_1632 rfl dl_1633 dl_1634 ?_
  refine l_arg (k := 2) C hn (by omega) dl_1635 dl_1636 dl_1637 rfl dl_1638 dl_1639 ?_
  refine l_vi (d := 40) (y := m_M_even) (As := [.int (xs (n + 1)), .int (xs (n + 2))]) (st := [_]) C wd_2265 vf_M_even xk_M (by decide) rfl rfl (Nat.le_of_ble_eq_true rfl) dl_1640 (by decide) (b_M_even (d := 0) h1.1 h1.2 (fun D2 h2 => ?_))
  exact l_icmp_eq (tgt := 1916) C dl_1643 (by decide) (fun _ => kk D2 _ h2) (fun c => absurd rfl c)
theorem lw_case_29 (C : lC κ p s mid meth c0 b Ln xs) (hn : n + 8 ≤ Ln) (hI : bI D g) (kk : ∀ (D' : xD) (g' : gS), bI D' g' → lP κ p l e s mid below meth c0 b 1916 (L0 n) [] xF D') : lP κ p l e s mid below meth c0 b 1648 (L0 n) [] xF D := by
  refine l_aload C dl_1648 rfl ?_
  refine l_arg (k := 1) C hn (by omega) dl_1649 dl_1650 dl_1651 rfl dl_1652 dl_1653 ?_
  refine l_arg (k := 2) C hn (by omega) dl_1654 dl_1655 dl_1656 rfl dl_1657 dl_1658 ?_
  refine l_arg (k := 3) C hn (by omega) dl_1659 dl_1660 dl_1661 rfl dl_1662 dl_1663 ?_
  refine l_vi (d := 40) (y := m_S_feint) (As := [.int (xs (n + 1)), .int (xs (n + 2)), .int (xs (n + 3))]) (st := []) C wd_1392 vf_S_feint xk_0 (by decide) rfl rfl (Nat.le_of_ble_eq_true rfl) dl_1664 (by decide) (b_S_feint (d := 0) hI (fun D1 h1 => ?_))
  refine l_aload C dl_1667 rfl ?_
  refine l_arg (k := 1) C hn (by omega) dl_1668 dl_1669 dl_1670 rfl dl_1671 dl_1672 ?_
  refine l_arg (k := 2) C hn (by omega) dl_1673 dl_1674 dl_1675 rfl dl_1676 dl_1677 ?_
  refine l_arg (k := 3) C hn (by omega) dl_1678 dl_1679 dl_1680 rfl dl_1681 dl_1682 ?_
  refine l_vi (d := 40) (y := m_M_feint) (As := [.int (xs (n + 1)), .int (xs (n + 2)), .int (xs (n + 3))]) (st := [_]) C wd_2273 vf_M_feint xk_M (by decide) rfl rfl (Nat.le_of_ble_eq_true rfl) dl_1683 (by decide) (b_M_feint (d := 0) h1.1 h1.2 (fun D2 h2 => ?_))
  exact l_icmp_eq (tgt := 1916) C dl_1686 (by decide) (fun _ => kk D2 _ h2) (fun c => absurd rfl c)
theorem lw_case_30 (C : lC κ p s mid meth c0 b Ln xs) (hn : n + 8 ≤ Ln) (hI : bI D g) (kk : ∀ (D' : xD) (g' : gS), bI D' g' → lP κ p l e s mid below meth c0 b 1916 (L0 n) [] xF D') : lP κ p l e s mid below meth c0 b 1691 (L0 n) [] xF D := by
  refine l_aload C dl_1691 rfl ?_
  refine l_arg (k := 1) C hn (by omega) dl_1692 dl_1693 dl_1694 rfl dl_1695 dl_1696 ?_
  refine l_arg (k := 2) C hn (by omega) dl_1697 dl_1698 dl_1699 rfl dl_1700 dl_1701 ?_
  refine l_arg (k := 3) C hn (by omega) dl_1702 dl_1703 dl_1704 rfl dl_1705 dl_1706 ?_
  refine l_vi (d := 40) (y := m_S_frame) (As := [.int (xs (n + 1)), .int (xs (n + 2)), .int (xs (n + 3))]) (st := []) C wd_1415 vf_S_frame xk_0 (by decide) rfl rfl (Nat.le_of_ble_eq_true rfl) dl_1707 (by decide) (b_S_frame (d := 0) hI (fun D1 h1 => ?_))
  refine l_aload C dl_1710 rfl ?_
  refine l_arg (k := 1) C hn (by omega) dl_1711 dl_1712 dl_1713 rfl dl_1714 dl_1715 ?_
  refine l_arg (k := 2) C hn (by omega) dl_1716 dl_1717 dl_1718 rfl dl_1719 dl_1720 ?_
  refine l_arg (k := 3) C hn (by omega) dl_1721 dl_1722 dl_1723 rfl dl_1724 dl_1725 ?_
  refine l_vi (d := 40) (y := m_M_frame) (As := [.int (xs (n + 1)), .int (xs (n + 2)), .int (xs (n + 3))]) (st := [_]) C wd_2284 vf_M_frame xk_M (by decide) rfl rfl (Nat.le_of_ble_eq_true rfl) dl_1726 (by decide) (b_M_frame (d := 0) h1.1 h1.2 (fun D2 h2 => ?_))
  exact l_icmp_eq (tgt := 1916) C dl_1729 (by decide) (fun _ => kk D2 _ h2) (fun c => absurd rfl c)
theorem lw_case_31 (C : lC κ p s mid meth c0 b Ln xs) (hn : n + 8 ≤ Ln) (hI : bI D g) (kk : ∀ (D' : xD) (g' : gS), bI D' g' → lP κ p l e s mid below meth c0 b 1916 (L0 n) [] xF D') : lP κ p l e s mid below meth c0 b 1734 (L0 n) [] xF D := by
  refine l_aload C dl_1734 rfl ?_
  refine l_arg (k := 1) C hn (by omega) dl_1735 dl_1736 dl_1737 rfl dl_1738 dl_1739 ?_
  refine l_arg (k := 2) C hn (by omega) dl_1740 dl_1741 dl_1742 rfl dl_1743 dl_1744 ?_
  refine l_arg (k := 3) C hn (by omega) dl_1745 dl_1746 dl_1747 rfl dl_1748 dl_1749 ?_
  refine l_vi (d := 40) (y := m_S_film) (As := [.int (xs (n + 1)), .int (xs (n + 2)), .int (xs (n + 3))]) (st := []) C wd_1429 vf_S_film xk_0 (by decide) rfl rfl (Nat.le_of_ble_eq_true rfl) dl_1750 (by decide) (b_S_film (d := 0) hI (fun D1 h1 => ?_))
  refine l_aload C dl_1753 rfl ?_
  refine l_arg (k := 1) C hn (by omega) dl_1754 dl_1755 dl_1756 rfl dl_1757 dl_1758 ?_
  refine l_arg (k := 2) C hn (by omega) dl_1759 dl_1760 dl_1761 rfl dl_1762 dl_1763 ?_
  refine l_arg (k := 3) C hn (by omega) dl_1764 dl_1765 dl_1766 rfl dl_1767 dl_1768 ?_
  refine l_vi (d := 40) (y := m_M_film) (As := [.int (xs (n + 1)), .int (xs (n + 2)), .int (xs (n + 3))]) (st := [_]) C wd_2296 vf_M_film xk_M (by decide) rfl rfl (Nat.le_of_ble_eq_true rfl) dl_1769 (by decide) (b_M_film (d := 0) h1.1 h1.2 (fun D2 h2 => ?_))
  exact l_icmp_eq (tgt := 1916) C dl_1772 (by decide) (fun _ => kk D2 _ h2) (fun c => absurd rfl c)
theorem lw_case_32 (C : lC κ p s mid meth c0 b Ln xs) (hn : n + 8 ≤ Ln) (hI : bI D g) (kk : ∀ (D' : xD) (g' : gS), bI D' g' → lP κ p l e s mid below meth c0 b 1916 (L0 n) [] xF D') : lP κ p l e s mid below meth c0 b 1777 (L0 n) [] xF D := by
  refine l_aload C dl_1777 rfl ?_
  refine l_arg (k := 1) C hn (by omega) dl_1778 dl_1779 dl_1780 rfl dl_1781 dl_1782 ?_
  refine l_arg (k := 2) C hn (by omega) dl_1783 dl_1784 dl_1785 rfl dl_1786 dl_1787 ?_
  refine l_arg (k := 3) C hn (by omega) dl_1788 dl_1789 dl_1790 rfl dl_1791 dl_1792 ?_
  refine l_arg (k := 4) C hn (by omega) dl_1793 dl_1794 dl_1795 rfl dl_1796 dl_1797 ?_
  refine l_bz C dl_1798 dl_1801 dl_1802 dl_1805 ?_
  refine l_vl (d := 40) (y := m_S_pulled) (As := [.int (xs (n + 1)), .int (xs (n + 2)), .int (xs (n + 3)), .int (bz (xs (n + 4)))]) (st := []) C wd_1476 vf_S_pulled xk_0 (by decide) rfl rfl (Nat.le_of_ble_eq_true rfl) dl_1806 (by decide) (b_S_pulled (d := 0) hI (fun D1 h1 => ?_))
  refine l_aload C dl_1809 rfl ?_
  refine l_arg (k := 1) C hn (by omega) dl_1810 dl_1811 dl_1812 rfl dl_1813 dl_1814 ?_
  refine l_arg (k := 2) C hn (by omega) dl_1815 dl_1816 dl_1817 rfl dl_1818 dl_1819 ?_
  refine l_arg (k := 3) C hn (by omega) dl_1820 dl_1821 dl_1822 rfl dl_1823 dl_1824 ?_
  refine l_arg (k := 4) C hn (by omega) dl_1825 dl_1826 dl_1827 rfl dl_1828 dl_1829 ?_
  refine l_bz C dl_1830 dl_1833 dl_1834 dl_1837 ?_
  refine l_vl (d := 40) (y := m_M_pulled) (As := [.int (xs (n + 1)), .int (xs (n + 2)), .int (xs (n + 3)), .int (bz (xs (n + 4)))]) (st := [_]) C wd_2320 vf_M_pulled xk_M (by decide) rfl rfl (Nat.le_of_ble_eq_true rfl) dl_1838 (by decide) (b_M_pulled (d := 0) h1.1 h1.2 (fun D2 h2 => ?_))
  refine l_lcmp C dl_1841 ?_
  rw [cmp_self]
  exact l_if_eq (tgt := 1916) C dl_1842 (by decide) (fun _ => kk D2 _ h2) (fun c => absurd rfl c)
theorem lw_case_33 (C : lC κ p s mid meth c0 b Ln xs) (hn : n + 8 ≤ Ln) (hI : bI D g) (kk : ∀ (D' : xD) (g' : gS), bI D' g' → lP κ p l e s mid below meth c0 b 1916 (L0 n) [] xF D') : lP κ p l e s mid below meth c0 b 1847 (L0 n) [] xF D := by
  refine l_aload C dl_1847 rfl ?_
  refine l_arg (k := 1) C hn (by omega) dl_1848 dl_1849 dl_1850 rfl dl_1851 dl_1852 ?_
  refine l_vi (d := 40) (y := m_S_count) (As := [.int (xs (n + 1))]) (st := []) C wd_1490 vf_S_count xk_0 (by decide) rfl rfl (Nat.le_of_ble_eq_true rfl) dl_1853 (by decide) (b_S_count (d := 0) hI (fun D1 h1 => ?_))
  refine l_aload C dl_1856 rfl ?_
  refine l_arg (k := 1) C hn (by omega) dl_1857 dl_1858 dl_1859 rfl dl_1860 dl_1861 ?_
  refine l_vi (d := 40) (y := m_M_count) (As := [.int (xs (n + 1))]) (st := [_]) C wd_2324 vf_M_count xk_M (by decide) rfl rfl (Nat.le_of_ble_eq_true rfl) dl_1862 (by decide) (b_M_count (d := 0) h1.1 h1.2 (fun D2 h2 => ?_))
  exact l_icmp_eq (tgt := 1916) C dl_1865 (by decide) (fun _ => kk D2 _ h2) (fun c => absurd rfl c)
theorem lw_case_34 (C : lC κ p s mid meth c0 b Ln xs) (hn : n + 8 ≤ Ln) (hI : bI D g) (kk : ∀ (D' : xD) (g' : gS), bI D' g' → lP κ p l e s mid below meth c0 b 1916 (L0 n) [] xF D') : lP κ p l e s mid below meth c0 b 1870 (L0 n) [] xF D := by
  refine l_aload C dl_1870 rfl ?_
  refine l_arg (k := 1) C hn (by omega) dl_1871 dl_1872 dl_1873 rfl dl_1874 dl_1875 ?_
  refine l_vi (d := 40) (y := m_S_image) (As := [.int (xs (n + 1))]) (st := []) C wd_1494 vf_S_image xk_0 (by decide) rfl rfl (Nat.le_of_ble_eq_true rfl) dl_1876 (by decide) (b_S_image (d := 0) hI (fun D1 h1 => ?_))
  refine l_aload C dl_1879 rfl ?_
  refine l_arg (k := 1) C hn (by omega) dl_1880 dl_1881 dl_1882 rfl dl_1883 dl_1884 ?_
  refine l_vi (d := 40) (y := m_M_image) (As := [.int (xs (n + 1))]) (st := [_]) C wd_2328 vf_M_image xk_M (by decide) rfl rfl (Nat.le_of_ble_eq_true rfl) dl_1885 (by decide) (b_M_image (d := 0) h1.1 h1.2 (fun D2 h2 => ?_))
  exact l_icmp_eq (tgt := 1916) C dl_1888 (by decide) (fun _ => kk D2 _ h2) (fun c => absurd rfl c)
theorem lw_case_35 (C : lC κ p s mid meth c0 b Ln xs) (hn : n + 8 ≤ Ln) (hI : bI D g) (kk : ∀ (D' : xD) (g' : gS), bI D' g' → lP κ p l e s mid below meth c0 b 1916 (L0 n) [] xF D') : lP κ p l e s mid below meth c0 b 1893 (L0 n) [] xF D := by
  refine l_aload C dl_1893 rfl ?_
  refine l_arg (k := 1) C hn (by omega) dl_1894 dl_1895 dl_1896 rfl dl_1897 dl_1898 ?_
  refine l_vi (d := 40) (y := m_S_again) (As := [.int (xs (n + 1))]) (st := []) C wd_1510 vf_S_again xk_0 (by decide) rfl rfl (Nat.le_of_ble_eq_true rfl) dl_1899 (by decide) (b_S_again (d := 0) hI (fun D1 h1 => ?_))
  refine l_aload C dl_1902 rfl ?_
  refine l_arg (k := 1) C hn (by omega) dl_1903 dl_1904 dl_1905 rfl dl_1906 dl_1907 ?_
  refine l_vi (d := 40) (y := m_M_again) (As := [.int (xs (n + 1))]) (st := [_]) C wd_2339 vf_M_again xk_M (by decide) rfl rfl (Nat.le_of_ble_eq_true rfl) dl_1908 (by decide) (b_M_again (d := 0) h1.1 h1.2 (fun D2 h2 => ?_))
  exact l_icmp_eq (tgt := 1916) C dl_1911 (by decide) (fun _ => kk D2 _ h2) (fun c => absurd rfl c)
end LAW2
