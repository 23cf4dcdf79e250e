def cd_law0 (L : Nat) (xs : Nat → Int32) : List (Nat × qOp) := [
  (0, oNew 5 7 [some none, some none, none, some none, some none, some none, some none] 600000 7302250 3),
  (3, oDup 4),
  (4, oCallI 54 0 59 688 600000 7302250 7),
  (7, oStA 1 8),
  (8, oNew 6 29 [some none, some none, some none, none, some none, some none, none, some none, some none, none, none, some none, none, none, none, some none, some none, some none, some none, none, some none, some none, none, some none, none, some none, some none, some none, some none] 600000 7302250 11),
  (11, oDup 12),
  (12, oCallI 103 0 19 506 600000 7302250 15),
  (15, oStA 2 16),
  (16, oI (0) 17),
  (17, oStI 3 18),
  (18, oLdI 3 19),
  (19, oLdA 0 20),
  (20, oSLen L 21),
  (21, oI (6) 23),
  (23, oBin (fun x y => x - y) 24),
  (24, oCmGt 1356 27),
  (27, oLdA 0 28),
  (28, oLdI 3 29),
  (29, oSLd L xs 30),
  (30, oI (63) 32),
  (32, oBin (fun x y => x &&& y) 33),
  (33, oSw (0) [192, 235, 268, 291, 334, 367, 400, 423, 446, 469, 532, 545, 558, 581, 624, 657, 680, 713, 746, 789, 822, 845, 868, 881, 904, 937, 970, 983, 1026, 1089, 1102, 1115, 1168, 1211, 1234, 1287] 1350),
  (192, oLdA 1 193),
  (193, oLdA 0 194),
  (194, oLdI 3 195),
  (195, oI (1) 196),
  (196, oBin (fun x y => x + y) 197),
  (197, oSLd L xs 198),
  (198, oLdA 0 199),
  (199, oLdI 3 200),
  (200, oI (2) 201),
  (201, oBin (fun x y => x + y) 202),
  (202, oSLd L xs 203),
  (203, oLdA 0 204),
  (204, oLdI 3 205),
  (205, oI (3) 206),
  (206, oBin (fun x y => x + y) 207),
  (207, oSLd L xs 208),
  (208, oCallV 55 5 3 0 0 600000 7302250 211),
  (211, oLdA 2 212),
  (212, oLdA 0 213),
  (213, oLdI 3 214),
  (214, oI (1) 215),
  (215, oBin (fun x y => x + y) 216),
  (216, oSLd L xs 217),
  (217, oLdA 0 218),
  (218, oLdI 3 219),
  (219, oI (2) 220),
  (220, oBin (fun x y => x + y) 221),
  (221, oSLd L xs 222),
  (222, oLdA 0 223),
  (223, oLdI 3 224),
  (224, oI (3) 225),
  (225, oBin (fun x y => x + y) 226),
  (226, oSLd L xs 227),
  (227, oCallV 110 6 3 0 0 600000 7302250 230),
  (230, oCmEq 1350 233),
  (233, oI (0) 234),
  (234, oRetZ),
  (235, oLdA 1 236),
  (236, oLdA 0 237),
  (237, oLdI 3 238),
  (238, oI (1) 239),
  (239, oBin (fun x y => x + y) 240),
  (240, oSLd L xs 241),
  (241, oLdA 0 242),
  (242, oLdI 3 243),
  (243, oI (2) 244),
  (244, oBin (fun x y => x + y) 245),
  (245, oSLd L xs 246),
  (246, oCallV 56 5 2 0 0 600000 7302250 249),
  (249, oLdA 2 250),
  (250, oLdA 0 251),
  (251, oLdI 3 252),
  (252, oI (1) 253),
  (253, oBin (fun x y => x + y) 254),
  (254, oSLd L xs 255),
  (255, oLdA 0 256),
  (256, oLdI 3 257),
  (257, oI (2) 258),
  (258, oBin (fun x y => x + y) 259),
  (259, oSLd L xs 260),
  (260, oCallV 111 6 2 0 0 600000 7302250 263),
  (263, oCmEq 1350 266),
  (266, oI (0) 267),
  (267, oRetZ),
  (268, oLdA 1 269),
  (269, oLdA 0 270),
  (270, oLdI 3 271),
  (271, oI (1) 272),
  (272, oBin (fun x y => x + y) 273),
  (273, oSLd L xs 274),
  (274, oCallV 57 5 1 0 0 600000 7302250 277),
  (277, oLdA 2 278),
  (278, oLdA 0 279),
  (279, oLdI 3 280),
  (280, oI (1) 281),
  (281, oBin (fun x y => x + y) 282),
  (282, oSLd L xs 283),
  (283, oCallV 112 6 1 0 0 600000 7302250 286),
  (286, oCmEq 1350 289),
  (289, oI (0) 290),
  (290, oRetZ),
  (291, oLdA 1 292),
  (292, oLdA 0 293),
  (293, oLdI 3 294),
  (294, oI (1) 295),
  (295, oBin (fun x y => x + y) 296),
  (296, oSLd L xs 297),
  (297, oLdA 0 298),
  (298, oLdI 3 299),
  (299, oI (2) 300),
  (300, oBin (fun x y => x + y) 301),
  (301, oSLd L xs 302),
  (302, oLdA 0 303),
  (303, oLdI 3 304),
  (304, oI (3) 305),
  (305, oBin (fun x y => x + y) 306),
  (306, oSLd L xs 307),
  (307, oCallV 58 5 3 0 0 600000 7302250 310)]
set_option maxRecDepth 100000 in
theorem ck_law0 (L : Nat) (xs : Nat → Int32) {ini : Bool} : ∀ x ∈ cd_law0 L xs, OpOK qMT code RL 4 ret ini 600000 7302250 (some (L, xs)) x.1 x.2 :=
  kc (ok_new (T := TX5) dL_law_0 rfl hin_X5 tyX5_ok hw_62 hw_63 hw_52 rfl (by decide +kernel) (by decide)) (
  kc (ok_dup dL_law_3) (
  kc (ok_callI dL_law_4 qm_54 rfl rfl hw_64 hw_65 rfl rfl qp_54) (
  kc (ok_astore_n dL_law_7 rfl) (
  kc (ok_new (T := TX6) dL_law_8 rfl hin_X6 tyX6_ok hw_647 hw_648 hw_58 rfl (by decide +kernel) (by decide)) (
  kc (ok_dup dL_law_11) (
  kc (ok_callI dL_law_12 qm_103 rfl rfl hw_649 hw_650 rfl rfl qp_103) (
  kc (ok_astore_n dL_law_15 rfl) (
  kc (ok_iconst dL_law_16 (by decide)) (
  kc (ok_istore_n dL_law_17 rfl) (
  kc (ok_iload_n dL_law_18 rfl) (
  kc (ok_aload_n dL_law_19 rfl) (
  kc (ok_slen dL_law_20 rfl) (
  kc (ok_bipush dL_law_21 (by decide)) (
  kc (ok_isub dL_law_23) (
  kc (ok_cm_gt dL_law_24 (by decide)) (
  kc (ok_aload_n dL_law_27 rfl) (
  kc (ok_iload_n dL_law_28 rfl) (
  kc (ok_sld dL_law_29 rfl) (
  kc (ok_bipush dL_law_30 (by decide)) (
  kc (ok_iand dL_law_32) (
  kc (ok_sw dL_law_33 (by decide) (by decide) (by decide)) (
  kc (ok_aload_n dL_law_192 rfl) (
  kc (ok_aload_n dL_law_193 rfl) (
  kc (ok_iload_n dL_law_194 rfl) (
  kc (ok_iconst dL_law_195 (by decide)) (
  kc (ok_iadd dL_law_196) (
  kc (ok_sld dL_law_197 rfl) (
  kc (ok_aload_n dL_law_198 rfl) (
  kc (ok_iload_n dL_law_199 rfl) (
  kc (ok_iconst dL_law_200 (by decide)) (
  kc (ok_iadd dL_law_201) (
  kc (ok_sld dL_law_202 rfl) (
  kc (ok_aload_n dL_law_203 rfl) (
  kc (ok_iload_n dL_law_204 rfl) (
  kc (ok_iconst dL_law_205 (by decide)) (
  kc (ok_iadd dL_law_206) (
  kc (ok_sld dL_law_207 rfl) (
  kc (ok_callV (T := TX5) dL_law_208 qm_55 rfl rfl rfl hw_237 hw_238 hw_239 qp_55) (
  kc (ok_aload_n dL_law_211 rfl) (
  kc (ok_aload_n dL_law_212 rfl) (
  kc (ok_iload_n dL_law_213 rfl) (
  kc (ok_iconst dL_law_214 (by decide)) (
  kc (ok_iadd dL_law_215) (
  kc (ok_sld dL_law_216 rfl) (
  kc (ok_aload_n dL_law_217 rfl) (
  kc (ok_iload_n dL_law_218 rfl) (
  kc (ok_iconst dL_law_219 (by decide)) (
  kc (ok_iadd dL_law_220) (
  kc (ok_sld dL_law_221 rfl) (
  kc (ok_aload_n dL_law_222 rfl) (
  kc (ok_iload_n dL_law_223 rfl) (
  kc (ok_iconst dL_law_224 (by decide)) (
  kc (ok_iadd dL_law_225) (
  kc (ok_sld dL_law_226 rfl) (
  kc (ok_callV (T := TX6) dL_law_227 qm_110 rfl rfl rfl hw_741 hw_742 hw_743 qp_110) (
  kc (ok_cm_eq dL_law_230 (by decide)) (
  kc (ok_iconst dL_law_233 (by decide)) (
  kc (ok_retZ dL_law_234 rfl) (
  kc (ok_aload_n dL_law_235 rfl) (
  kc (ok_aload_n dL_law_236 rfl) (
  kc (ok_iload_n dL_law_237 rfl) (
  kc (ok_iconst dL_law_238 (by decide)) (
  kc (ok_iadd dL_law_239) (
  kc (ok_sld dL_law_240 rfl) (
  kc (ok_aload_n dL_law_241 rfl) (
  kc (ok_iload_n dL_law_242 rfl) (
  kc (ok_iconst dL_law_243 (by decide)) (
  kc (ok_iadd dL_law_244) (
  kc (ok_sld dL_law_245 rfl) (
  kc (ok_callV (T := TX5) dL_law_246 qm_56 rfl rfl rfl hw_250 hw_251 hw_252 qp_56) (
  kc (ok_aload_n dL_law_249 rfl) (
  kc (ok_aload_n dL_law_250 rfl) (
  kc (ok_iload_n dL_law_251 rfl) (
  kc (ok_iconst dL_law_252 (by decide)) (
  kc (ok_iadd dL_law_253) (
  kc (ok_sld dL_law_254 rfl) (
  kc (ok_aload_n dL_law_255 rfl) (
  kc (ok_iload_n dL_law_256 rfl) (
  kc (ok_iconst dL_law_257 (by decide)) (
  kc (ok_iadd dL_law_258) (
  kc (ok_sld dL_law_259 rfl) (
  kc (ok_callV (T := TX6) dL_law_260 qm_111 rfl rfl rfl hw_754 hw_755 hw_756 qp_111) (
  kc (ok_cm_eq dL_law_263 (by decide)) (
  kc (ok_iconst dL_law_266 (by decide)) (
  kc (ok_retZ dL_law_267 rfl) (
  kc (ok_aload_n dL_law_268 rfl) (
  kc (ok_aload_n dL_law_269 rfl) (
  kc (ok_iload_n dL_law_270 rfl) (
  kc (ok_iconst dL_law_271 (by decide)) (
  kc (ok_iadd dL_law_272) (
  kc (ok_sld dL_law_273 rfl) (
  kc (ok_callV (T := TX5) dL_law_274 qm_57 rfl rfl rfl hw_266 hw_267 hw_268 qp_57) (
  kc (ok_aload_n dL_law_277 rfl) (
  kc (ok_aload_n dL_law_278 rfl) (
  kc (ok_iload_n dL_law_279 rfl) (
  kc (ok_iconst dL_law_280 (by decide)) (
  kc (ok_iadd dL_law_281) (
  kc (ok_sld dL_law_282 rfl) (
  kc (ok_callV (T := TX6) dL_law_283 qm_112 rfl rfl rfl hw_770 hw_771 hw_772 qp_112) (
  kc (ok_cm_eq dL_law_286 (by decide)) (
  kc (ok_iconst dL_law_289 (by decide)) (
  kc (ok_retZ dL_law_290 rfl) (
  kc (ok_aload_n dL_law_291 rfl) (
  kc (ok_aload_n dL_law_292 rfl) (
  kc (ok_iload_n dL_law_293 rfl) (
  kc (ok_iconst dL_law_294 (by decide)) (
  kc (ok_iadd dL_law_295) (
  kc (ok_sld dL_law_296 rfl) (
  kc (ok_aload_n dL_law_297 rfl) (
  kc (ok_iload_n dL_law_298 rfl) (
  kc (ok_iconst dL_law_299 (by decide)) (
  kc (ok_iadd dL_law_300) (
  kc (ok_sld dL_law_301 rfl) (
  kc (ok_aload_n dL_law_302 rfl) (
  kc (ok_iload_n dL_law_303 rfl) (
  kc (ok_iconst dL_law_304 (by decide)) (
  kc (ok_iadd dL_law_305) (
  kc (ok_sld dL_law_306 rfl) (
  kc (ok_callV (T := TX5) dL_law_307 qm_58 rfl rfl rfl hw_278 hw_279 hw_280 qp_58) (
  kn))))))))))))))))))))))))))))))))))))))))))))))))))))))))))))))))))))))))))))))))))))))))))))))))))))))))))))))))))))))))
def cd_law1 (L : Nat) (xs : Nat → Int32) : List (Nat × qOp) := [
  (310, oLdA 2 311),
  (311, oLdA 0 312),
  (312, oLdI 3 313),
  (313, oI (1) 314),
  (314, oBin (fun x y => x + y) 315),
  (315, oSLd L xs 316),
  (316, oLdA 0 317),
  (317, oLdI 3 318),
  (318, oI (2) 319),
  (319, oBin (fun x y => x + y) 320),
  (320, oSLd L xs 321),
  (321, oLdA 0 322),
  (322, oLdI 3 323),
  (323, oI (3) 324),
  (324, oBin (fun x y => x + y) 325),
  (325, oSLd L xs 326),
  (326, oCallV 113 6 3 0 0 600000 7302250 329),
  (329, oCmEq 1350 332),
  (332, oI (0) 333),
  (333, oRetZ),
  (334, oLdA 1 335),
  (335, oLdA 0 336),
  (336, oLdI 3 337),
  (337, oI (1) 338),
  (338, oBin (fun x y => x + y) 339),
  (339, oSLd L xs 340),
  (340, oLdA 0 341),
  (341, oLdI 3 342),
  (342, oI (2) 343),
  (343, oBin (fun x y => x + y) 344),
  (344, oSLd L xs 345),
  (345, oCallV 59 5 2 0 0 600000 7302250 348),
  (348, oLdA 2 349),
  (349, oLdA 0 350),
  (350, oLdI 3 351),
  (351, oI (1) 352),
  (352, oBin (fun x y => x + y) 353),
  (353, oSLd L xs 354),
  (354, oLdA 0 355),
  (355, oLdI 3 356),
  (356, oI (2) 357),
  (357, oBin (fun x y => x + y) 358),
  (358, oSLd L xs 359),
  (359, oCallV 115 6 2 0 0 600000 7302250 362),
  (362, oCmEq 1350 365),
  (365, oI (0) 366),
  (366, oRetZ),
  (367, oLdA 1 368),
  (368, oLdA 0 369),
  (369, oLdI 3 370),
  (370, oI (1) 371),
  (371, oBin (fun x y => x + y) 372),
  (372, oSLd L xs 373),
  (373, oLdA 0 374),
  (374, oLdI 3 375),
  (375, oI (2) 376),
  (376, oBin (fun x y => x + y) 377),
  (377, oSLd L xs 378),
  (378, oCallV 60 5 2 0 0 600000 7302250 381),
  (381, oLdA 2 382),
  (382, oLdA 0 383),
  (383, oLdI 3 384),
  (384, oI (1) 385),
  (385, oBin (fun x y => x + y) 386),
  (386, oSLd L xs 387),
  (387, oLdA 0 388),
  (388, oLdI 3 389),
  (389, oI (2) 390),
  (390, oBin (fun x y => x + y) 391),
  (391, oSLd L xs 392),
  (392, oCallV 116 6 2 0 0 600000 7302250 395),
  (395, oCmEq 1350 398),
  (398, oI (0) 399),
  (399, oRetZ),
  (400, oLdA 1 401),
  (401, oLdA 0 402),
  (402, oLdI 3 403),
  (403, oI (1) 404),
  (404, oBin (fun x y => x + y) 405),
  (405, oSLd L xs 406),
  (406, oCallV 61 5 1 0 0 600000 7302250 409),
  (409, oLdA 2 410),
  (410, oLdA 0 411),
  (411, oLdI 3 412),
  (412, oI (1) 413),
  (413, oBin (fun x y => x + y) 414),
  (414, oSLd L xs 415),
  (415, oCallV 117 6 1 0 0 600000 7302250 418),
  (418, oCmEq 1350 421),
  (421, oI (0) 422),
  (422, oRetZ),
  (423, oLdA 1 424),
  (424, oLdA 0 425),
  (425, oLdI 3 426),
  (426, oI (1) 427),
  (427, oBin (fun x y => x + y) 428),
  (428, oSLd L xs 429),
  (429, oCallV 62 5 1 0 0 600000 7302250 432),
  (432, oLdA 2 433),
  (433, oLdA 0 434),
  (434, oLdI 3 435),
  (435, oI (1) 436),
  (436, oBin (fun x y => x + y) 437),
  (437, oSLd L xs 438),
  (438, oCallV 118 6 1 0 0 600000 7302250 441),
  (441, oCmEq 1350 444),
  (444, oI (0) 445),
  (445, oRetZ),
  (446, oLdA 1 447),
  (447, oLdA 0 448),
  (448, oLdI 3 449),
  (449, oI (1) 450),
  (450, oBin (fun x y => x + y) 451),
  (451, oSLd L xs 452),
  (452, oCallV 63 5 1 0 0 600000 7302250 455),
  (455, oLdA 2 456),
  (456, oLdA 0 457),
  (457, oLdI 3 458),
  (458, oI (1) 459),
  (459, oBin (fun x y => x + y) 460)]
set_option maxRecDepth 100000 in
theorem ck_law1 (L : Nat) (xs : Nat → Int32) {ini : Bool} : ∀ x ∈ cd_law1 L xs, OpOK qMT code RL 4 ret ini 600000 7302250 (some (L, xs)) x.1 x.2 :=
  kc (ok_aload_n dL_law_310 rfl) (
  kc (ok_aload_n dL_law_311 rfl) (
  kc (ok_iload_n dL_law_312 rfl) (
  kc (ok_iconst dL_law_313 (by decide)) (
  kc (ok_iadd dL_law_314) (
  kc (ok_sld dL_law_315 rfl) (
  kc (ok_aload_n dL_law_316 rfl) (
  kc (ok_iload_n dL_law_317 rfl) (
  kc (ok_iconst dL_law_318 (by decide)) (
  kc (ok_iadd dL_law_319) (
  kc (ok_sld dL_law_320 rfl) (
  kc (ok_aload_n dL_law_321 rfl) (
  kc (ok_iload_n dL_law_322 rfl) (
  kc (ok_iconst dL_law_323 (by decide)) (
  kc (ok_iadd dL_law_324) (
  kc (ok_sld dL_law_325 rfl) (
  kc (ok_callV (T := TX6) dL_law_326 qm_113 rfl rfl rfl hw_775 hw_776 hw_777 qp_113) (
  kc (ok_cm_eq dL_law_329 (by decide)) (
  kc (ok_iconst dL_law_332 (by decide)) (
  kc (ok_retZ dL_law_333 rfl) (
  kc (ok_aload_n dL_law_334 rfl) (
  kc (ok_aload_n dL_law_335 rfl) (
  kc (ok_iload_n dL_law_336 rfl) (
  kc (ok_iconst dL_law_337 (by decide)) (
  kc (ok_iadd dL_law_338) (
  kc (ok_sld dL_law_339 rfl) (
  kc (ok_aload_n dL_law_340 rfl) (
  kc (ok_iload_n dL_law_341 rfl) (
  kc (ok_iconst dL_law_342 (by decide)) (
  kc (ok_iadd dL_law_343) (
  kc (ok_sld dL_law_344 rfl) (
  kc (ok_callV (T := TX5) dL_law_345 qm_59 rfl rfl rfl hw_286 hw_287 hw_288 qp_59) (
  kc (ok_aload_n dL_law_348 rfl) (
  kc (ok_aload_n dL_law_349 rfl) (
  kc (ok_iload_n dL_law_350 rfl) (
  kc (ok_iconst dL_law_351 (by decide)) (
  kc (ok_iadd dL_law_352) (
  kc (ok_sld dL_law_353 rfl) (
  kc (ok_aload_n dL_law_354 rfl) (
  kc (ok_iload_n dL_law_355 rfl) (
  kc (ok_iconst dL_law_356 (by decide)) (
  kc (ok_iadd dL_law_357) (
  kc (ok_sld dL_law_358 rfl) (
  kc (ok_callV (T := TX6) dL_law_359 qm_115 rfl rfl rfl hw_783 hw_784 hw_785 qp_115) (
  kc (ok_cm_eq dL_law_362 (by decide)) (
  kc (ok_iconst dL_law_365 (by decide)) (
  kc (ok_retZ dL_law_366 rfl) (
  kc (ok_aload_n dL_law_367 rfl) (
  kc (ok_aload_n dL_law_368 rfl) (
  kc (ok_iload_n dL_law_369 rfl) (
  kc (ok_iconst dL_law_370 (by decide)) (
  kc (ok_iadd dL_law_371) (
  kc (ok_sld dL_law_372 rfl) (
  kc (ok_aload_n dL_law_373 rfl) (
  kc (ok_iload_n dL_law_374 rfl) (
  kc (ok_iconst dL_law_375 (by decide)) (
  kc (ok_iadd dL_law_376) (
  kc (ok_sld dL_law_377 rfl) (
  kc (ok_callV (T := TX5) dL_law_378 qm_60 rfl rfl rfl hw_299 hw_300 hw_301 qp_60) (
  kc (ok_aload_n dL_law_381 rfl) (
  kc (ok_aload_n dL_law_382 rfl) (
  kc (ok_iload_n dL_law_383 rfl) (
  kc (ok_iconst dL_law_384 (by decide)) (
  kc (ok_iadd dL_law_385) (
  kc (ok_sld dL_law_386 rfl) (
  kc (ok_aload_n dL_law_387 rfl) (
  kc (ok_iload_n dL_law_388 rfl) (
  kc (ok_iconst dL_law_389 (by decide)) (
  kc (ok_iadd dL_law_390) (
  kc (ok_sld dL_law_391 rfl) (
  kc (ok_callV (T := TX6) dL_law_392 qm_116 rfl rfl rfl hw_797 hw_798 hw_799 qp_116) (
  kc (ok_cm_eq dL_law_395 (by decide)) (
  kc (ok_iconst dL_law_398 (by decide)) (
  kc (ok_retZ dL_law_399 rfl) (
  kc (ok_aload_n dL_law_400 rfl) (
  kc (ok_aload_n dL_law_401 rfl) (
  kc (ok_iload_n dL_law_402 rfl) (
  kc (ok_iconst dL_law_403 (by decide)) (
  kc (ok_iadd dL_law_404) (
  kc (ok_sld dL_law_405 rfl) (
  kc (ok_callV (T := TX5) dL_law_406 qm_61 rfl rfl rfl hw_305 hw_306 hw_307 qp_61) (
  kc (ok_aload_n dL_law_409 rfl) (
  kc (ok_aload_n dL_law_410 rfl) (
  kc (ok_iload_n dL_law_411 rfl) (
  kc (ok_iconst dL_law_412 (by decide)) (
  kc (ok_iadd dL_law_413) (
  kc (ok_sld dL_law_414 rfl) (
  kc (ok_callV (T := TX6) dL_law_415 qm_117 rfl rfl rfl hw_802 hw_803 hw_804 qp_117) (
  kc (ok_cm_eq dL_law_418 (by decide)) (
  kc (ok_iconst dL_law_421 (by decide)) (
  kc (ok_retZ dL_law_422 rfl) (
  kc (ok_aload_n dL_law_423 rfl) (
  kc (ok_aload_n dL_law_424 rfl) (
  kc (ok_iload_n dL_law_425 rfl) (
  kc (ok_iconst dL_law_426 (by decide)) (
  kc (ok_iadd dL_law_427) (
  kc (ok_sld dL_law_428 rfl) (
  kc (ok_callV (T := TX5) dL_law_429 qm_62 rfl rfl rfl hw_309 hw_310 hw_311 qp_62) (
  kc (ok_aload_n dL_law_432 rfl) (
  kc (ok_aload_n dL_law_433 rfl) (
  kc (ok_iload_n dL_law_434 rfl) (
  kc (ok_iconst dL_law_435 (by decide)) (
  kc (ok_iadd dL_law_436) (
  kc (ok_sld dL_law_437 rfl) (
  kc (ok_callV (T := TX6) dL_law_438 qm_118 rfl rfl rfl hw_806 hw_807 hw_808 qp_118) (
  kc (ok_cm_eq dL_law_441 (by decide)) (
  kc (ok_iconst dL_law_444 (by decide)) (
  kc (ok_retZ dL_law_445 rfl) (
  kc (ok_aload_n dL_law_446 rfl) (
  kc (ok_aload_n dL_law_447 rfl) (
  kc (ok_iload_n dL_law_448 rfl) (
  kc (ok_iconst dL_law_449 (by decide)) (
  kc (ok_iadd dL_law_450) (
  kc (ok_sld dL_law_451 rfl) (
  kc (ok_callV (T := TX5) dL_law_452 qm_63 rfl rfl rfl hw_313 hw_314 hw_315 qp_63) (
  kc (ok_aload_n dL_law_455 rfl) (
  kc (ok_aload_n dL_law_456 rfl) (
  kc (ok_iload_n dL_law_457 rfl) (
  kc (ok_iconst dL_law_458 (by decide)) (
  kc (ok_iadd dL_law_459) (
  kn))))))))))))))))))))))))))))))))))))))))))))))))))))))))))))))))))))))))))))))))))))))))))))))))))))))))))))))))))))))))
def cd_law2 (L : Nat) (xs : Nat → Int32) : List (Nat × qOp) := [
  (460, oSLd L xs 461),
  (461, oCallV 121 6 1 0 0 600000 7302250 464),
  (464, oCmEq 1350 467),
  (467, oI (0) 468),
  (468, oRetZ),
  (469, oLdA 1 470),
  (470, oLdA 0 471),
  (471, oLdI 3 472),
  (472, oI (1) 473),
  (473, oBin (fun x y => x + y) 474),
  (474, oSLd L xs 475),
  (475, oI2L 476),
  (476, oI (32) 478),
  (478, oLSh (fun x y => x <<< (y.toInt64 &&& 63)) 479),
  (479, oLdA 0 480),
  (480, oLdI 3 481),
  (481, oI (2) 482),
  (482, oBin (fun x y => x + y) 483),
  (483, oSLd L xs 484),
  (484, oI2L 485),
  (485, oL (4294967295) 488),
  (488, oLBin (fun x y => x &&& y) 489),
  (489, oLBin (fun x y => x ||| y) 490),
  (490, oLdA 0 491),
  (491, oLdI 3 492),
  (492, oI (3) 493),
  (493, oBin (fun x y => x + y) 494),
  (494, oSLd L xs 495),
  (495, oCallV 64 5 2 0 0 600000 7302250 498),
  (498, oLdA 2 499),
  (499, oLdA 0 500),
  (500, oLdI 3 501),
  (501, oI (1) 502),
  (502, oBin (fun x y => x + y) 503),
  (503, oSLd L xs 504),
  (504, oI2L 505),
  (505, oI (32) 507),
  (507, oLSh (fun x y => x <<< (y.toInt64 &&& 63)) 508),
  (508, oLdA 0 509),
  (509, oLdI 3 510),
  (510, oI (2) 511),
  (511, oBin (fun x y => x + y) 512),
  (512, oSLd L xs 513),
  (513, oI2L 514),
  (514, oL (4294967295) 517),
  (517, oLBin (fun x y => x &&& y) 518),
  (518, oLBin (fun x y => x ||| y) 519),
  (519, oLdA 0 520),
  (520, oLdI 3 521),
  (521, oI (3) 522),
  (522, oBin (fun x y => x + y) 523),
  (523, oSLd L xs 524),
  (524, oCallV 125 6 2 0 0 600000 7302250 527),
  (527, oCmEq 1350 530),
  (530, oI (0) 531),
  (531, oRetZ),
  (532, oLdA 1 533),
  (533, oCallV 65 5 0 0 0 600000 7302250 536),
  (536, oLdA 2 537),
  (537, oCallV 132 6 0 0 0 600000 7302250 540),
  (540, oCmEq 1350 543),
  (543, oI (0) 544),
  (544, oRetZ),
  (545, oLdA 1 546),
  (546, oCallV 66 5 0 0 0 600000 7302250 549),
  (549, oLdA 2 550),
  (550, oCallV 133 6 0 0 0 600000 7302250 553),
  (553, oCmEq 1350 556),
  (556, oI (0) 557),
  (557, oRetZ),
  (558, oLdA 1 559),
  (559, oLdA 0 560),
  (560, oLdI 3 561),
  (561, oI (1) 562),
  (562, oBin (fun x y => x + y) 563),
  (563, oSLd L xs 564),
  (564, oCallV 67 5 1 0 0 600000 7302250 567),
  (567, oLdA 2 568),
  (568, oLdA 0 569),
  (569, oLdI 3 570),
  (570, oI (1) 571),
  (571, oBin (fun x y => x + y) 572),
  (572, oSLd L xs 573),
  (573, oCallV 124 6 1 0 0 600000 7302250 576),
  (576, oCmEq 1350 579),
  (579, oI (0) 580),
  (580, oRetZ),
  (581, oLdA 1 582),
  (582, oLdA 0 583),
  (583, oLdI 3 584),
  (584, oI (1) 585),
  (585, oBin (fun x y => x + y) 586),
  (586, oSLd L xs 587),
  (587, oLdA 0 588),
  (588, oLdI 3 589),
  (589, oI (2) 590),
  (590, oBin (fun x y => x + y) 591),
  (591, oSLd L xs 592),
  (592, oLdA 0 593),
  (593, oLdI 3 594),
  (594, oI (3) 595),
  (595, oBin (fun x y => x + y) 596),
  (596, oSLd L xs 597),
  (597, oCallV 68 5 3 0 0 600000 7302250 600),
  (600, oLdA 2 601),
  (601, oLdA 0 602),
  (602, oLdI 3 603),
  (603, oI (1) 604),
  (604, oBin (fun x y => x + y) 605),
  (605, oSLd L xs 606),
  (606, oLdA 0 607),
  (607, oLdI 3 608),
  (608, oI (2) 609),
  (609, oBin (fun x y => x + y) 610),
  (610, oSLd L xs 611),
  (611, oLdA 0 612),
  (612, oLdI 3 613),
  (613, oI (3) 614),
  (614, oBin (fun x y => x + y) 615),
  (615, oSLd L xs 616)]
set_option maxRecDepth 100000 in
theorem ck_law2 (L : Nat) (xs : Nat → Int32) {ini : Bool} : ∀ x ∈ cd_law2 L xs, OpOK qMT code RL 4 ret ini 600000 7302250 (some (L, xs)) x.1 x.2 :=
  kc (ok_sld dL_law_460 rfl) (
  kc (ok_callV (T := TX6) dL_law_461 qm_121 rfl rfl rfl hw_810 hw_811 hw_812 qp_121) (
  kc (ok_cm_eq dL_law_464 (by decide)) (
  kc (ok_iconst dL_law_467 (by decide)) (
  kc (ok_retZ dL_law_468 rfl) (
  kc (ok_aload_n dL_law_469 rfl) (
  kc (ok_aload_n dL_law_470 rfl) (
  kc (ok_iload_n dL_law_471 rfl) (
  kc (ok_iconst dL_law_472 (by decide)) (
  kc (ok_iadd dL_law_473) (
  kc (ok_sld dL_law_474 rfl) (
  kc (ok_i2l dL_law_475) (
  kc (ok_bipush dL_law_476 (by decide)) (
  kc (ok_lshl dL_law_478) (
  kc (ok_aload_n dL_law_479 rfl) (
  kc (ok_iload_n dL_law_480 rfl) (
  kc (ok_iconst dL_law_481 (by decide)) (
  kc (ok_iadd dL_law_482) (
  kc (ok_sld dL_law_483 rfl) (
  kc (ok_i2l dL_law_484) (
  kc (ok_ldc2 dL_law_485 hw_1060) (
  kc (ok_land dL_law_488) (
  kc (ok_lor dL_law_489) (
  kc (ok_aload_n dL_law_490 rfl) (
  kc (ok_iload_n dL_law_491 rfl) (
  kc (ok_iconst dL_law_492 (by decide)) (
  kc (ok_iadd dL_law_493) (
  kc (ok_sld dL_law_494 rfl) (
  kc (ok_callV (T := TX5) dL_law_495 qm_64 rfl rfl rfl hw_326 hw_327 hw_328 qp_64) (
  kc (ok_aload_n dL_law_498 rfl) (
  kc (ok_aload_n dL_law_499 rfl) (
  kc (ok_iload_n dL_law_500 rfl) (
  kc (ok_iconst dL_law_501 (by decide)) (
  kc (ok_iadd dL_law_502) (
  kc (ok_sld dL_law_503 rfl) (
  kc (ok_i2l dL_law_504) (
  kc (ok_bipush dL_law_505 (by decide)) (
  kc (ok_lshl dL_law_507) (
  kc (ok_aload_n dL_law_508 rfl) (
  kc (ok_iload_n dL_law_509 rfl) (
  kc (ok_iconst dL_law_510 (by decide)) (
  kc (ok_iadd dL_law_511) (
  kc (ok_sld dL_law_512 rfl) (
  kc (ok_i2l dL_law_513) (
  kc (ok_ldc2 dL_law_514 hw_1060) (
  kc (ok_land dL_law_517) (
  kc (ok_lor dL_law_518) (
  kc (ok_aload_n dL_law_519 rfl) (
  kc (ok_iload_n dL_law_520 rfl) (
  kc (ok_iconst dL_law_521 (by decide)) (
  kc (ok_iadd dL_law_522) (
  kc (ok_sld dL_law_523 rfl) (
  kc (ok_callV (T := TX6) dL_law_524 qm_125 rfl rfl rfl hw_834 hw_835 hw_836 qp_125) (
  kc (ok_cm_eq dL_law_527 (by decide)) (
  kc (ok_iconst dL_law_530 (by decide)) (
  kc (ok_retZ dL_law_531 rfl) (
  kc (ok_aload_n dL_law_532 rfl) (
  kc (ok_callV (T := TX5) dL_law_533 qm_65 rfl rfl rfl hw_340 hw_341 hw_342 qp_65) (
  kc (ok_aload_n dL_law_536 rfl) (
  kc (ok_callV (T := TX6) dL_law_537 qm_132 rfl rfl rfl hw_842 hw_843 hw_844 qp_132) (
  kc (ok_cm_eq dL_law_540 (by decide)) (
  kc (ok_iconst dL_law_543 (by decide)) (
  kc (ok_retZ dL_law_544 rfl) (
  kc (ok_aload_n dL_law_545 rfl) (
  kc (ok_callV (T := TX5) dL_law_546 qm_66 rfl rfl rfl hw_367 hw_368 hw_369 qp_66) (
  kc (ok_aload_n dL_law_549 rfl) (
  kc (ok_callV (T := TX6) dL_law_550 qm_133 rfl rfl rfl hw_874 hw_875 hw_876 qp_133) (
  kc (ok_cm_eq dL_law_553 (by decide)) (
  kc (ok_iconst dL_law_556 (by decide)) (
  kc (ok_retZ dL_law_557 rfl) (
  kc (ok_aload_n dL_law_558 rfl) (
  kc (ok_aload_n dL_law_559 rfl) (
  kc (ok_iload_n dL_law_560 rfl) (
  kc (ok_iconst dL_law_561 (by decide)) (
  kc (ok_iadd dL_law_562) (
  kc (ok_sld dL_law_563 rfl) (
  kc (ok_callV (T := TX5) dL_law_564 qm_67 rfl rfl rfl hw_382 hw_383 hw_384 qp_67) (
  kc (ok_aload_n dL_law_567 rfl) (
  kc (ok_aload_n dL_law_568 rfl) (
  kc (ok_iload_n dL_law_569 rfl) (
  kc (ok_iconst dL_law_570 (by decide)) (
  kc (ok_iadd dL_law_571) (
  kc (ok_sld dL_law_572 rfl) (
  kc (ok_callV (T := TX6) dL_law_573 qm_124 rfl rfl rfl hw_823 hw_824 hw_825 qp_124) (
  kc (ok_cm_eq dL_law_576 (by decide)) (
  kc (ok_iconst dL_law_579 (by decide)) (
  kc (ok_retZ dL_law_580 rfl) (
  kc (ok_aload_n dL_law_581 rfl) (
  kc (ok_aload_n dL_law_582 rfl) (
  kc (ok_iload_n dL_law_583 rfl) (
  kc (ok_iconst dL_law_584 (by decide)) (
  kc (ok_iadd dL_law_585) (
  kc (ok_sld dL_law_586 rfl) (
  kc (ok_aload_n dL_law_587 rfl) (
  kc (ok_iload_n dL_law_588 rfl) (
  kc (ok_iconst dL_law_589 (by decide)) (
  kc (ok_iadd dL_law_590) (
  kc (ok_sld dL_law_591 rfl) (
  kc (ok_aload_n dL_law_592 rfl) (
  kc (ok_iload_n dL_law_593 rfl) (
  kc (ok_iconst dL_law_594 (by decide)) (
  kc (ok_iadd dL_law_595) (
  kc (ok_sld dL_law_596 rfl) (
  kc (ok_callV (T := TX5) dL_law_597 qm_68 rfl rfl rfl hw_399 hw_400 hw_401 qp_68) (
  kc (ok_aload_n dL_law_600 rfl) (
  kc (ok_aload_n dL_law_601 rfl) (
  kc (ok_iload_n dL_law_602 rfl) (
  kc (ok_iconst dL_law_603 (by decide)) (
  kc (ok_iadd dL_law_604) (
  kc (ok_sld dL_law_605 rfl) (
  kc (ok_aload_n dL_law_606 rfl) (
  kc (ok_iload_n dL_law_607 rfl) (
  kc (ok_iconst dL_law_608 (by decide)) (
  kc (ok_iadd dL_law_609) (
  kc (ok_sld dL_law_610 rfl) (
  kc (ok_aload_n dL_law_611 rfl) (
  kc (ok_iload_n dL_law_612 rfl) (
  kc (ok_iconst dL_law_613 (by decide)) (
  kc (ok_iadd dL_law_614) (
  kc (ok_sld dL_law_615 rfl) (
  kn))))))))))))))))))))))))))))))))))))))))))))))))))))))))))))))))))))))))))))))))))))))))))))))))))))))))))))))))))))))))
def cd_law3 (L : Nat) (xs : Nat → Int32) : List (Nat × qOp) := [
  (616, oCallV 137 6 3 0 0 600000 7302250 619),
  (619, oCmEq 1350 622),
  (622, oI (0) 623),
  (623, oRetZ),
  (624, oLdA 1 625),
  (625, oLdA 0 626),
  (626, oLdI 3 627),
  (627, oI (1) 628),
  (628, oBin (fun x y => x + y) 629),
  (629, oSLd L xs 630),
  (630, oLdA 0 631),
  (631, oLdI 3 632),
  (632, oI (2) 633),
  (633, oBin (fun x y => x + y) 634),
  (634, oSLd L xs 635),
  (635, oCallV 69 5 2 0 0 600000 7302250 638),
  (638, oLdA 2 639),
  (639, oLdA 0 640),
  (640, oLdI 3 641),
  (641, oI (1) 642),
  (642, oBin (fun x y => x + y) 643),
  (643, oSLd L xs 644),
  (644, oLdA 0 645),
  (645, oLdI 3 646),
  (646, oI (2) 647),
  (647, oBin (fun x y => x + y) 648),
  (648, oSLd L xs 649),
  (649, oCallV 138 6 2 0 0 600000 7302250 652),
  (652, oCmEq 1350 655),
  (655, oI (0) 656),
  (656, oRetZ),
  (657, oLdA 1 658),
  (658, oLdA 0 659),
  (659, oLdI 3 660),
  (660, oI (1) 661),
  (661, oBin (fun x y => x + y) 662),
  (662, oSLd L xs 663),
  (663, oCallV 70 5 1 0 0 600000 7302250 666),
  (666, oLdA 2 667),
  (667, oLdA 0 668),
  (668, oLdI 3 669),
  (669, oI (1) 670),
  (670, oBin (fun x y => x + y) 671),
  (671, oSLd L xs 672),
  (672, oCallV 139 6 1 0 0 600000 7302250 675),
  (675, oCmEq 1350 678),
  (678, oI (0) 679),
  (679, oRetZ),
  (680, oLdA 1 681),
  (681, oLdA 0 682),
  (682, oLdI 3 683),
  (683, oI (1) 684),
  (684, oBin (fun x y => x + y) 685),
  (685, oSLd L xs 686),
  (686, oLdA 0 687),
  (687, oLdI 3 688),
  (688, oI (2) 689),
  (689, oBin (fun x y => x + y) 690),
  (690, oSLd L xs 691),
  (691, oCallV 71 5 2 0 0 600000 7302250 694),
  (694, oLdA 2 695),
  (695, oLdA 0 696),
  (696, oLdI 3 697),
  (697, oI (1) 698),
  (698, oBin (fun x y => x + y) 699),
  (699, oSLd L xs 700),
  (700, oLdA 0 701),
  (701, oLdI 3 702),
  (702, oI (2) 703),
  (703, oBin (fun x y => x + y) 704),
  (704, oSLd L xs 705),
  (705, oCallV 141 6 2 0 0 600000 7302250 708),
  (708, oCmEq 1350 711),
  (711, oI (0) 712),
  (712, oRetZ),
  (713, oLdA 1 714),
  (714, oLdA 0 715),
  (715, oLdI 3 716),
  (716, oI (1) 717),
  (717, oBin (fun x y => x + y) 718),
  (718, oSLd L xs 719),
  (719, oLdA 0 720),
  (720, oLdI 3 721),
  (721, oI (2) 722),
  (722, oBin (fun x y => x + y) 723),
  (723, oSLd L xs 724),
  (724, oCallV 72 5 2 0 0 600000 7302250 727),
  (727, oLdA 2 728),
  (728, oLdA 0 729),
  (729, oLdI 3 730),
  (730, oI (1) 731),
  (731, oBin (fun x y => x + y) 732),
  (732, oSLd L xs 733),
  (733, oLdA 0 734),
  (734, oLdI 3 735),
  (735, oI (2) 736),
  (736, oBin (fun x y => x + y) 737),
  (737, oSLd L xs 738),
  (738, oCallV 142 6 2 0 0 600000 7302250 741),
  (741, oCmEq 1350 744),
  (744, oI (0) 745),
  (745, oRetZ),
  (746, oLdA 1 747),
  (747, oLdA 0 748),
  (748, oLdI 3 749),
  (749, oI (1) 750),
  (750, oBin (fun x y => x + y) 751),
  (751, oSLd L xs 752),
  (752, oLdA 0 753),
  (753, oLdI 3 754),
  (754, oI (2) 755),
  (755, oBin (fun x y => x + y) 756),
  (756, oSLd L xs 757),
  (757, oLdA 0 758),
  (758, oLdI 3 759),
  (759, oI (3) 760),
  (760, oBin (fun x y => x + y) 761),
  (761, oSLd L xs 762),
  (762, oCallV 73 5 3 0 0 600000 7302250 765),
  (765, oLdA 2 766)]
set_option maxRecDepth 100000 in
theorem ck_law3 (L : Nat) (xs : Nat → Int32) {ini : Bool} : ∀ x ∈ cd_law3 L xs, OpOK qMT code RL 4 ret ini 600000 7302250 (some (L, xs)) x.1 x.2 :=
  kc (ok_callV (T := TX6) dL_law_616 qm_137 rfl rfl rfl hw_878 hw_879 hw_880 qp_137) (
  kc (ok_cm_eq dL_law_619 (by decide)) (
  kc (ok_iconst dL_law_622 (by decide)) (
  kc (ok_retZ dL_law_623 rfl) (
  kc (ok_aload_n dL_law_624 rfl) (
  kc (ok_aload_n dL_law_625 rfl) (
  kc (ok_iload_n dL_law_626 rfl) (
  kc (ok_iconst dL_law_627 (by decide)) (
  kc (ok_iadd dL_law_628) (
  kc (ok_sld dL_law_629 rfl) (
  kc (ok_aload_n dL_law_630 rfl) (
  kc (ok_iload_n dL_law_631 rfl) (
  kc (ok_iconst dL_law_632 (by decide)) (
  kc (ok_iadd dL_law_633) (
  kc (ok_sld dL_law_634 rfl) (
  kc (ok_callV (T := TX5) dL_law_635 qm_69 rfl rfl rfl hw_422 hw_423 hw_424 qp_69) (
  kc (ok_aload_n dL_law_638 rfl) (
  kc (ok_aload_n dL_law_639 rfl) (
  kc (ok_iload_n dL_law_640 rfl) (
  kc (ok_iconst dL_law_641 (by decide)) (
  kc (ok_iadd dL_law_642) (
  kc (ok_sld dL_law_643 rfl) (
  kc (ok_aload_n dL_law_644 rfl) (
  kc (ok_iload_n dL_law_645 rfl) (
  kc (ok_iconst dL_law_646 (by decide)) (
  kc (ok_iadd dL_law_647) (
  kc (ok_sld dL_law_648 rfl) (
  kc (ok_callV (T := TX6) dL_law_649 qm_138 rfl rfl rfl hw_894 hw_895 hw_896 qp_138) (
  kc (ok_cm_eq dL_law_652 (by decide)) (
  kc (ok_iconst dL_law_655 (by decide)) (
  kc (ok_retZ dL_law_656 rfl) (
  kc (ok_aload_n dL_law_657 rfl) (
  kc (ok_aload_n dL_law_658 rfl) (
  kc (ok_iload_n dL_law_659 rfl) (
  kc (ok_iconst dL_law_660 (by decide)) (
  kc (ok_iadd dL_law_661) (
  kc (ok_sld dL_law_662 rfl) (
  kc (ok_callV (T := TX5) dL_law_663 qm_70 rfl rfl rfl hw_430 hw_431 hw_432 qp_70) (
  kc (ok_aload_n dL_law_666 rfl) (
  kc (ok_aload_n dL_law_667 rfl) (
  kc (ok_iload_n dL_law_668 rfl) (
  kc (ok_iconst dL_law_669 (by decide)) (
  kc (ok_iadd dL_law_670) (
  kc (ok_sld dL_law_671 rfl) (
  kc (ok_callV (T := TX6) dL_law_672 qm_139 rfl rfl rfl hw_898 hw_899 hw_900 qp_139) (
  kc (ok_cm_eq dL_law_675 (by decide)) (
  kc (ok_iconst dL_law_678 (by decide)) (
  kc (ok_retZ dL_law_679 rfl) (
  kc (ok_aload_n dL_law_680 rfl) (
  kc (ok_aload_n dL_law_681 rfl) (
  kc (ok_iload_n dL_law_682 rfl) (
  kc (ok_iconst dL_law_683 (by decide)) (
  kc (ok_iadd dL_law_684) (
  kc (ok_sld dL_law_685 rfl) (
  kc (ok_aload_n dL_law_686 rfl) (
  kc (ok_iload_n dL_law_687 rfl) (
  kc (ok_iconst dL_law_688 (by decide)) (
  kc (ok_iadd dL_law_689) (
  kc (ok_sld dL_law_690 rfl) (
  kc (ok_callV (T := TX5) dL_law_691 qm_71 rfl rfl rfl hw_435 hw_436 hw_437 qp_71) (
  kc (ok_aload_n dL_law_694 rfl) (
  kc (ok_aload_n dL_law_695 rfl) (
  kc (ok_iload_n dL_law_696 rfl) (
  kc (ok_iconst dL_law_697 (by decide)) (
  kc (ok_iadd dL_law_698) (
  kc (ok_sld dL_law_699 rfl) (
  kc (ok_aload_n dL_law_700 rfl) (
  kc (ok_iload_n dL_law_701 rfl) (
  kc (ok_iconst dL_law_702 (by decide)) (
  kc (ok_iadd dL_law_703) (
  kc (ok_sld dL_law_704 rfl) (
  kc (ok_callV (T := TX6) dL_law_705 qm_141 rfl rfl rfl hw_902 hw_903 hw_904 qp_141) (
  kc (ok_cm_eq dL_law_708 (by decide)) (
  kc (ok_iconst dL_law_711 (by decide)) (
  kc (ok_retZ dL_law_712 rfl) (
  kc (ok_aload_n dL_law_713 rfl) (
  kc (ok_aload_n dL_law_714 rfl) (
  kc (ok_iload_n dL_law_715 rfl) (
  kc (ok_iconst dL_law_716 (by decide)) (
  kc (ok_iadd dL_law_717) (
  kc (ok_sld dL_law_718 rfl) (
  kc (ok_aload_n dL_law_719 rfl) (
  kc (ok_iload_n dL_law_720 rfl) (
  kc (ok_iconst dL_law_721 (by decide)) (
  kc (ok_iadd dL_law_722) (
  kc (ok_sld dL_law_723 rfl) (
  kc (ok_callV (T := TX5) dL_law_724 qm_72 rfl rfl rfl hw_444 hw_445 hw_446 qp_72) (
  kc (ok_aload_n dL_law_727 rfl) (
  kc (ok_aload_n dL_law_728 rfl) (
  kc (ok_iload_n dL_law_729 rfl) (
  kc (ok_iconst dL_law_730 (by decide)) (
  kc (ok_iadd dL_law_731) (
  kc (ok_sld dL_law_732 rfl) (
  kc (ok_aload_n dL_law_733 rfl) (
  kc (ok_iload_n dL_law_734 rfl) (
  kc (ok_iconst dL_law_735 (by decide)) (
  kc (ok_iadd dL_law_736) (
  kc (ok_sld dL_law_737 rfl) (
  kc (ok_callV (T := TX6) dL_law_738 qm_142 rfl rfl rfl hw_910 hw_911 hw_912 qp_142) (
  kc (ok_cm_eq dL_law_741 (by decide)) (
  kc (ok_iconst dL_law_744 (by decide)) (
  kc (ok_retZ dL_law_745 rfl) (
  kc (ok_aload_n dL_law_746 rfl) (
  kc (ok_aload_n dL_law_747 rfl) (
  kc (ok_iload_n dL_law_748 rfl) (
  kc (ok_iconst dL_law_749 (by decide)) (
  kc (ok_iadd dL_law_750) (
  kc (ok_sld dL_law_751 rfl) (
  kc (ok_aload_n dL_law_752 rfl) (
  kc (ok_iload_n dL_law_753 rfl) (
  kc (ok_iconst dL_law_754 (by decide)) (
  kc (ok_iadd dL_law_755) (
  kc (ok_sld dL_law_756 rfl) (
  kc (ok_aload_n dL_law_757 rfl) (
  kc (ok_iload_n dL_law_758 rfl) (
  kc (ok_iconst dL_law_759 (by decide)) (
  kc (ok_iadd dL_law_760) (
  kc (ok_sld dL_law_761 rfl) (
  kc (ok_callV (T := TX5) dL_law_762 qm_73 rfl rfl rfl hw_457 hw_458 hw_459 qp_73) (
  kc (ok_aload_n dL_law_765 rfl) (
  kn))))))))))))))))))))))))))))))))))))))))))))))))))))))))))))))))))))))))))))))))))))))))))))))))))))))))))))))))))))))))
def cd_law4 (L : Nat) (xs : Nat → Int32) : List (Nat × qOp) := [
  (766, oLdA 0 767),
  (767, oLdI 3 768),
  (768, oI (1) 769),
  (769, oBin (fun x y => x + y) 770),
  (770, oSLd L xs 771),
  (771, oLdA 0 772),
  (772, oLdI 3 773),
  (773, oI (2) 774),
  (774, oBin (fun x y => x + y) 775),
  (775, oSLd L xs 776),
  (776, oLdA 0 777),
  (777, oLdI 3 778),
  (778, oI (3) 779),
  (779, oBin (fun x y => x + y) 780),
  (780, oSLd L xs 781),
  (781, oCallV 146 6 3 0 0 600000 7302250 784),
  (784, oCmEq 1350 787),
  (787, oI (0) 788),
  (788, oRetZ),
  (789, oLdA 1 790),
  (790, oLdA 0 791),
  (791, oLdI 3 792),
  (792, oI (1) 793),
  (793, oBin (fun x y => x + y) 794),
  (794, oSLd L xs 795),
  (795, oLdA 0 796),
  (796, oLdI 3 797),
  (797, oI (2) 798),
  (798, oBin (fun x y => x + y) 799),
  (799, oSLd L xs 800),
  (800, oCallV 74 5 2 0 0 600000 7302250 803),
  (803, oLdA 2 804),
  (804, oLdA 0 805),
  (805, oLdI 3 806),
  (806, oI (1) 807),
  (807, oBin (fun x y => x + y) 808),
  (808, oSLd L xs 809),
  (809, oLdA 0 810),
  (810, oLdI 3 811),
  (811, oI (2) 812),
  (812, oBin (fun x y => x + y) 813),
  (813, oSLd L xs 814),
  (814, oCallV 148 6 2 0 0 600000 7302250 817),
  (817, oCmEq 1350 820),
  (820, oI (0) 821),
  (821, oRetZ),
  (822, oLdA 1 823),
  (823, oLdA 0 824),
  (824, oLdI 3 825),
  (825, oI (1) 826),
  (826, oBin (fun x y => x + y) 827),
  (827, oSLd L xs 828),
  (828, oCallV 75 5 1 0 0 600000 7302250 831),
  (831, oLdA 2 832),
  (832, oLdA 0 833),
  (833, oLdI 3 834),
  (834, oI (1) 835),
  (835, oBin (fun x y => x + y) 836),
  (836, oSLd L xs 837),
  (837, oCallV 150 6 1 0 0 600000 7302250 840),
  (840, oCmEq 1350 843),
  (843, oI (0) 844),
  (844, oRetZ),
  (845, oLdA 1 846),
  (846, oLdA 0 847),
  (847, oLdI 3 848),
  (848, oI (1) 849),
  (849, oBin (fun x y => x + y) 850),
  (850, oSLd L xs 851),
  (851, oCallV 76 5 1 0 0 600000 7302250 854),
  (854, oLdA 2 855),
  (855, oLdA 0 856),
  (856, oLdI 3 857),
  (857, oI (1) 858),
  (858, oBin (fun x y => x + y) 859),
  (859, oSLd L xs 860),
  (860, oCallV 152 6 1 0 0 600000 7302250 863),
  (863, oCmEq 1350 866),
  (866, oI (0) 867),
  (867, oRetZ),
  (868, oLdA 1 869),
  (869, oCallV 77 5 0 0 0 600000 7302250 872),
  (872, oLdA 2 873),
  (873, oCallV 154 6 0 0 0 600000 7302250 876),
  (876, oCmEq 1350 879),
  (879, oI (0) 880),
  (880, oRetZ),
  (881, oLdA 1 882),
  (882, oLdA 0 883),
  (883, oLdI 3 884),
  (884, oI (1) 885),
  (885, oBin (fun x y => x + y) 886),
  (886, oSLd L xs 887),
  (887, oCallV 78 5 1 0 0 600000 7302250 890),
  (890, oLdA 2 891),
  (891, oLdA 0 892),
  (892, oLdI 3 893),
  (893, oI (1) 894),
  (894, oBin (fun x y => x + y) 895),
  (895, oSLd L xs 896),
  (896, oCallV 158 6 1 0 0 600000 7302250 899),
  (899, oCmEq 1350 902),
  (902, oI (0) 903),
  (903, oRetZ),
  (904, oLdA 1 905),
  (905, oLdA 0 906),
  (906, oLdI 3 907),
  (907, oI (1) 908),
  (908, oBin (fun x y => x + y) 909),
  (909, oSLd L xs 910),
  (910, oLdA 0 911),
  (911, oLdI 3 912),
  (912, oI (2) 913),
  (913, oBin (fun x y => x + y) 914),
  (914, oSLd L xs 915),
  (915, oCallV 79 5 2 0 0 600000 7302250 918),
  (918, oLdA 2 919),
  (919, oLdA 0 920),
  (920, oLdI 3 921),
  (921, oI (1) 922)]
set_option maxRecDepth 100000 in
theorem ck_law4 (L : Nat) (xs : Nat → Int32) {ini : Bool} : ∀ x ∈ cd_law4 L xs, OpOK qMT code RL 4 ret ini 600000 7302250 (some (L, xs)) x.1 x.2 :=
  kc (ok_aload_n dL_law_766 rfl) (
  kc (ok_iload_n dL_law_767 rfl) (
  kc (ok_iconst dL_law_768 (by decide)) (
  kc (ok_iadd dL_law_769) (
  kc (ok_sld dL_law_770 rfl) (
  kc (ok_aload_n dL_law_771 rfl) (
  kc (ok_iload_n dL_law_772 rfl) (
  kc (ok_iconst dL_law_773 (by decide)) (
  kc (ok_iadd dL_law_774) (
  kc (ok_sld dL_law_775 rfl) (
  kc (ok_aload_n dL_law_776 rfl) (
  kc (ok_iload_n dL_law_777 rfl) (
  kc (ok_iconst dL_law_778 (by decide)) (
  kc (ok_iadd dL_law_779) (
  kc (ok_sld dL_law_780 rfl) (
  kc (ok_callV (T := TX6) dL_law_781 qm_146 rfl rfl rfl hw_914 hw_915 hw_916 qp_146) (
  kc (ok_cm_eq dL_law_784 (by decide)) (
  kc (ok_iconst dL_law_787 (by decide)) (
  kc (ok_retZ dL_law_788 rfl) (
  kc (ok_aload_n dL_law_789 rfl) (
  kc (ok_aload_n dL_law_790 rfl) (
  kc (ok_iload_n dL_law_791 rfl) (
  kc (ok_iconst dL_law_792 (by decide)) (
  kc (ok_iadd dL_law_793) (
  kc (ok_sld dL_law_794 rfl) (
  kc (ok_aload_n dL_law_795 rfl) (
  kc (ok_iload_n dL_law_796 rfl) (
  kc (ok_iconst dL_law_797 (by decide)) (
  kc (ok_iadd dL_law_798) (
  kc (ok_sld dL_law_799 rfl) (
  kc (ok_callV (T := TX5) dL_law_800 qm_74 rfl rfl rfl hw_475 hw_476 hw_477 qp_74) (
  kc (ok_aload_n dL_law_803 rfl) (
  kc (ok_aload_n dL_law_804 rfl) (
  kc (ok_iload_n dL_law_805 rfl) (
  kc (ok_iconst dL_law_806 (by decide)) (
  kc (ok_iadd dL_law_807) (
  kc (ok_sld dL_law_808 rfl) (
  kc (ok_aload_n dL_law_809 rfl) (
  kc (ok_iload_n dL_law_810 rfl) (
  kc (ok_iconst dL_law_811 (by decide)) (
  kc (ok_iadd dL_law_812) (
  kc (ok_sld dL_law_813 rfl) (
  kc (ok_callV (T := TX6) dL_law_814 qm_148 rfl rfl rfl hw_931 hw_932 hw_933 qp_148) (
  kc (ok_cm_eq dL_law_817 (by decide)) (
  kc (ok_iconst dL_law_820 (by decide)) (
  kc (ok_retZ dL_law_821 rfl) (
  kc (ok_aload_n dL_law_822 rfl) (
  kc (ok_aload_n dL_law_823 rfl) (
  kc (ok_iload_n dL_law_824 rfl) (
  kc (ok_iconst dL_law_825 (by decide)) (
  kc (ok_iadd dL_law_826) (
  kc (ok_sld dL_law_827 rfl) (
  kc (ok_callV (T := TX5) dL_law_828 qm_75 rfl rfl rfl hw_482 hw_483 hw_484 qp_75) (
  kc (ok_aload_n dL_law_831 rfl) (
  kc (ok_aload_n dL_law_832 rfl) (
  kc (ok_iload_n dL_law_833 rfl) (
  kc (ok_iconst dL_law_834 (by decide)) (
  kc (ok_iadd dL_law_835) (
  kc (ok_sld dL_law_836 rfl) (
  kc (ok_callV (T := TX6) dL_law_837 qm_150 rfl rfl rfl hw_939 hw_940 hw_941 qp_150) (
  kc (ok_cm_eq dL_law_840 (by decide)) (
  kc (ok_iconst dL_law_843 (by decide)) (
  kc (ok_retZ dL_law_844 rfl) (
  kc (ok_aload_n dL_law_845 rfl) (
  kc (ok_aload_n dL_law_846 rfl) (
  kc (ok_iload_n dL_law_847 rfl) (
  kc (ok_iconst dL_law_848 (by decide)) (
  kc (ok_iadd dL_law_849) (
  kc (ok_sld dL_law_850 rfl) (
  kc (ok_callV (T := TX5) dL_law_851 qm_76 rfl rfl rfl hw_491 hw_492 hw_493 qp_76) (
  kc (ok_aload_n dL_law_854 rfl) (
  kc (ok_aload_n dL_law_855 rfl) (
  kc (ok_iload_n dL_law_856 rfl) (
  kc (ok_iconst dL_law_857 (by decide)) (
  kc (ok_iadd dL_law_858) (
  kc (ok_sld dL_law_859 rfl) (
  kc (ok_callV (T := TX6) dL_law_860 qm_152 rfl rfl rfl hw_949 hw_950 hw_951 qp_152) (
  kc (ok_cm_eq dL_law_863 (by decide)) (
  kc (ok_iconst dL_law_866 (by decide)) (
  kc (ok_retZ dL_law_867 rfl) (
  kc (ok_aload_n dL_law_868 rfl) (
  kc (ok_callV (T := TX5) dL_law_869 qm_77 rfl rfl rfl hw_512 hw_513 hw_514 qp_77) (
  kc (ok_aload_n dL_law_872 rfl) (
  kc (ok_callV (T := TX6) dL_law_873 qm_154 rfl rfl rfl hw_957 hw_958 hw_959 qp_154) (
  kc (ok_cm_eq dL_law_876 (by decide)) (
  kc (ok_iconst dL_law_879 (by decide)) (
  kc (ok_retZ dL_law_880 rfl) (
  kc (ok_aload_n dL_law_881 rfl) (
  kc (ok_aload_n dL_law_882 rfl) (
  kc (ok_iload_n dL_law_883 rfl) (
  kc (ok_iconst dL_law_884 (by decide)) (
  kc (ok_iadd dL_law_885) (
  kc (ok_sld dL_law_886 rfl) (
  kc (ok_callV (T := TX5) dL_law_887 qm_78 rfl rfl rfl hw_520 hw_521 hw_522 qp_78) (
  kc (ok_aload_n dL_law_890 rfl) (
  kc (ok_aload_n dL_law_891 rfl) (
  kc (ok_iload_n dL_law_892 rfl) (
  kc (ok_iconst dL_law_893 (by decide)) (
  kc (ok_iadd dL_law_894) (
  kc (ok_sld dL_law_895 rfl) (
  kc (ok_callV (T := TX6) dL_law_896 qm_158 rfl rfl rfl hw_965 hw_966 hw_967 qp_158) (
  kc (ok_cm_eq dL_law_899 (by decide)) (
  kc (ok_iconst dL_law_902 (by decide)) (
  kc (ok_retZ dL_law_903 rfl) (
  kc (ok_aload_n dL_law_904 rfl) (
  kc (ok_aload_n dL_law_905 rfl) (
  kc (ok_iload_n dL_law_906 rfl) (
  kc (ok_iconst dL_law_907 (by decide)) (
  kc (ok_iadd dL_law_908) (
  kc (ok_sld dL_law_909 rfl) (
  kc (ok_aload_n dL_law_910 rfl) (
  kc (ok_iload_n dL_law_911 rfl) (
  kc (ok_iconst dL_law_912 (by decide)) (
  kc (ok_iadd dL_law_913) (
  kc (ok_sld dL_law_914 rfl) (
  kc (ok_callV (T := TX5) dL_law_915 qm_79 rfl rfl rfl hw_549 hw_550 hw_551 qp_79) (
  kc (ok_aload_n dL_law_918 rfl) (
  kc (ok_aload_n dL_law_919 rfl) (
  kc (ok_iload_n dL_law_920 rfl) (
  kc (ok_iconst dL_law_921 (by decide)) (
  kn))))))))))))))))))))))))))))))))))))))))))))))))))))))))))))))))))))))))))))))))))))))))))))))))))))))))))))))))))))))))
def cd_law5 (L : Nat) (xs : Nat → Int32) : List (Nat × qOp) := [
  (922, oBin (fun x y => x + y) 923),
  (923, oSLd L xs 924),
  (924, oLdA 0 925),
  (925, oLdI 3 926),
  (926, oI (2) 927),
  (927, oBin (fun x y => x + y) 928),
  (928, oSLd L xs 929),
  (929, oCallV 160 6 2 0 0 600000 7302250 932),
  (932, oCmEq 1350 935),
  (935, oI (0) 936),
  (936, oRetZ),
  (937, oLdA 1 938),
  (938, oLdA 0 939),
  (939, oLdI 3 940),
  (940, oI (1) 941),
  (941, oBin (fun x y => x + y) 942),
  (942, oSLd L xs 943),
  (943, oLdA 0 944),
  (944, oLdI 3 945),
  (945, oI (2) 946),
  (946, oBin (fun x y => x + y) 947),
  (947, oSLd L xs 948),
  (948, oCallV 80 5 2 0 0 600000 7302250 951),
  (951, oLdA 2 952),
  (952, oLdA 0 953),
  (953, oLdI 3 954),
  (954, oI (1) 955),
  (955, oBin (fun x y => x + y) 956),
  (956, oSLd L xs 957),
  (957, oLdA 0 958),
  (958, oLdI 3 959),
  (959, oI (2) 960),
  (960, oBin (fun x y => x + y) 961),
  (961, oSLd L xs 962),
  (962, oCallV 162 6 2 0 0 600000 7302250 965),
  (965, oCmEq 1350 968),
  (968, oI (0) 969),
  (969, oRetZ),
  (970, oLdA 1 971),
  (971, oCallV 81 5 0 0 0 600000 7302250 974),
  (974, oLdA 2 975),
  (975, oCallV 163 6 0 0 0 600000 7302250 978),
  (978, oCmEq 1350 981),
  (981, oI (0) 982),
  (982, oRetZ),
  (983, oLdA 1 984),
  (984, oLdA 0 985),
  (985, oLdI 3 986),
  (986, oI (1) 987),
  (987, oBin (fun x y => x + y) 988),
  (988, oSLd L xs 989),
  (989, oLdA 0 990),
  (990, oLdI 3 991),
  (991, oI (2) 992),
  (992, oBin (fun x y => x + y) 993),
  (993, oSLd L xs 994),
  (994, oLdA 0 995),
  (995, oLdI 3 996),
  (996, oI (3) 997),
  (997, oBin (fun x y => x + y) 998),
  (998, oSLd L xs 999),
  (999, oCallV 82 5 3 0 0 600000 7302250 1002),
  (1002, oLdA 2 1003),
  (1003, oLdA 0 1004),
  (1004, oLdI 3 1005),
  (1005, oI (1) 1006),
  (1006, oBin (fun x y => x + y) 1007),
  (1007, oSLd L xs 1008),
  (1008, oLdA 0 1009),
  (1009, oLdI 3 1010),
  (1010, oI (2) 1011),
  (1011, oBin (fun x y => x + y) 1012),
  (1012, oSLd L xs 1013),
  (1013, oLdA 0 1014),
  (1014, oLdI 3 1015),
  (1015, oI (3) 1016),
  (1016, oBin (fun x y => x + y) 1017),
  (1017, oSLd L xs 1018),
  (1018, oCallV 164 6 3 0 0 600000 7302250 1021),
  (1021, oCmEq 1350 1024),
  (1024, oI (0) 1025),
  (1025, oRetZ),
  (1026, oLdA 1 1027),
  (1027, oLdA 0 1028),
  (1028, oLdI 3 1029),
  (1029, oI (1) 1030),
  (1030, oBin (fun x y => x + y) 1031),
  (1031, oSLd L xs 1032),
  (1032, oLdA 0 1033),
  (1033, oLdI 3 1034),
  (1034, oI (2) 1035),
  (1035, oBin (fun x y => x + y) 1036),
  (1036, oSLd L xs 1037),
  (1037, oLdA 0 1038),
  (1038, oLdI 3 1039),
  (1039, oI (3) 1040),
  (1040, oBin (fun x y => x + y) 1041),
  (1041, oSLd L xs 1042),
  (1042, oLdA 0 1043),
  (1043, oLdI 3 1044),
  (1044, oI (4) 1045),
  (1045, oBin (fun x y => x + y) 1046),
  (1046, oSLd L xs 1047),
  (1047, oLdA 0 1048),
  (1048, oLdI 3 1049),
  (1049, oI (5) 1050),
  (1050, oBin (fun x y => x + y) 1051),
  (1051, oSLd L xs 1052),
  (1052, oCallV 83 5 5 0 0 600000 7302250 1055),
  (1055, oLdA 2 1056),
  (1056, oLdA 0 1057),
  (1057, oLdI 3 1058),
  (1058, oI (1) 1059),
  (1059, oBin (fun x y => x + y) 1060),
  (1060, oSLd L xs 1061),
  (1061, oLdA 0 1062),
  (1062, oLdI 3 1063),
  (1063, oI (2) 1064),
  (1064, oBin (fun x y => x + y) 1065),
  (1065, oSLd L xs 1066)]
set_option maxRecDepth 100000 in
theorem ck_law5 (L : Nat) (xs : Nat → Int32) {ini : Bool} : ∀ x ∈ cd_law5 L xs, OpOK qMT code RL 4 ret ini 600000 7302250 (some (L, xs)) x.1 x.2 :=
  kc (ok_iadd dL_law_922) (
  kc (ok_sld dL_law_923 rfl) (
  kc (ok_aload_n dL_law_924 rfl) (
  kc (ok_iload_n dL_law_925 rfl) (
  kc (ok_iconst dL_law_926 (by decide)) (
  kc (ok_iadd dL_law_927) (
  kc (ok_sld dL_law_928 rfl) (
  kc (ok_callV (T := TX6) dL_law_929 qm_160 rfl rfl rfl hw_983 hw_984 hw_985 qp_160) (
  kc (ok_cm_eq dL_law_932 (by decide)) (
  kc (ok_iconst dL_law_935 (by decide)) (
  kc (ok_retZ dL_law_936 rfl) (
  kc (ok_aload_n dL_law_937 rfl) (
  kc (ok_aload_n dL_law_938 rfl) (
  kc (ok_iload_n dL_law_939 rfl) (
  kc (ok_iconst dL_law_940 (by decide)) (
  kc (ok_iadd dL_law_941) (
  kc (ok_sld dL_law_942 rfl) (
  kc (ok_aload_n dL_law_943 rfl) (
  kc (ok_iload_n dL_law_944 rfl) (
  kc (ok_iconst dL_law_945 (by decide)) (
  kc (ok_iadd dL_law_946) (
  kc (ok_sld dL_law_947 rfl) (
  kc (ok_callV (T := TX5) dL_law_948 qm_80 rfl rfl rfl hw_569 hw_570 hw_571 qp_80) (
  kc (ok_aload_n dL_law_951 rfl) (
  kc (ok_aload_n dL_law_952 rfl) (
  kc (ok_iload_n dL_law_953 rfl) (
  kc (ok_iconst dL_law_954 (by decide)) (
  kc (ok_iadd dL_law_955) (
  kc (ok_sld dL_law_956 rfl) (
  kc (ok_aload_n dL_law_957 rfl) (
  kc (ok_iload_n dL_law_958 rfl) (
  kc (ok_iconst dL_law_959 (by decide)) (
  kc (ok_iadd dL_law_960) (
  kc (ok_sld dL_law_961 rfl) (
  kc (ok_callV (T := TX6) dL_law_962 qm_162 rfl rfl rfl hw_993 hw_994 hw_995 qp_162) (
  kc (ok_cm_eq dL_law_965 (by decide)) (
  kc (ok_iconst dL_law_968 (by decide)) (
  kc (ok_retZ dL_law_969 rfl) (
  kc (ok_aload_n dL_law_970 rfl) (
  kc (ok_callV (T := TX5) dL_law_971 qm_81 rfl rfl rfl hw_573 hw_574 hw_575 qp_81) (
  kc (ok_aload_n dL_law_974 rfl) (
  kc (ok_callV (T := TX6) dL_law_975 qm_163 rfl rfl rfl hw_1001 hw_1002 hw_1003 qp_163) (
  kc (ok_cm_eq dL_law_978 (by decide)) (
  kc (ok_iconst dL_law_981 (by decide)) (
  kc (ok_retZ dL_law_982 rfl) (
  kc (ok_aload_n dL_law_983 rfl) (
  kc (ok_aload_n dL_law_984 rfl) (
  kc (ok_iload_n dL_law_985 rfl) (
  kc (ok_iconst dL_law_986 (by decide)) (
  kc (ok_iadd dL_law_987) (
  kc (ok_sld dL_law_988 rfl) (
  kc (ok_aload_n dL_law_989 rfl) (
  kc (ok_iload_n dL_law_990 rfl) (
  kc (ok_iconst dL_law_991 (by decide)) (
  kc (ok_iadd dL_law_992) (
  kc (ok_sld dL_law_993 rfl) (
  kc (ok_aload_n dL_law_994 rfl) (
  kc (ok_iload_n dL_law_995 rfl) (
  kc (ok_iconst dL_law_996 (by decide)) (
  kc (ok_iadd dL_law_997) (
  kc (ok_sld dL_law_998 rfl) (
  kc (ok_callV (T := TX5) dL_law_999 qm_82 rfl rfl rfl hw_578 hw_579 hw_580 qp_82) (
  kc (ok_aload_n dL_law_1002 rfl) (
  kc (ok_aload_n dL_law_1003 rfl) (
  kc (ok_iload_n dL_law_1004 rfl) (
  kc (ok_iconst dL_law_1005 (by decide)) (
  kc (ok_iadd dL_law_1006) (
  kc (ok_sld dL_law_1007 rfl) (
  kc (ok_aload_n dL_law_1008 rfl) (
  kc (ok_iload_n dL_law_1009 rfl) (
  kc (ok_iconst dL_law_1010 (by decide)) (
  kc (ok_iadd dL_law_1011) (
  kc (ok_sld dL_law_1012 rfl) (
  kc (ok_aload_n dL_law_1013 rfl) (
  kc (ok_iload_n dL_law_1014 rfl) (
  kc (ok_iconst dL_law_1015 (by decide)) (
  kc (ok_iadd dL_law_1016) (
  kc (ok_sld dL_law_1017 rfl) (
  kc (ok_callV (T := TX6) dL_law_1018 qm_164 rfl rfl rfl hw_1005 hw_1006 hw_1007 qp_164) (
  kc (ok_cm_eq dL_law_1021 (by decide)) (
  kc (ok_iconst dL_law_1024 (by decide)) (
  kc (ok_retZ dL_law_1025 rfl) (
  kc (ok_aload_n dL_law_1026 rfl) (
  kc (ok_aload_n dL_law_1027 rfl) (
  kc (ok_iload_n dL_law_1028 rfl) (
  kc (ok_iconst dL_law_1029 (by decide)) (
  kc (ok_iadd dL_law_1030) (
  kc (ok_sld dL_law_1031 rfl) (
  kc (ok_aload_n dL_law_1032 rfl) (
  kc (ok_iload_n dL_law_1033 rfl) (
  kc (ok_iconst dL_law_1034 (by decide)) (
  kc (ok_iadd dL_law_1035) (
  kc (ok_sld dL_law_1036 rfl) (
  kc (ok_aload_n dL_law_1037 rfl) (
  kc (ok_iload_n dL_law_1038 rfl) (
  kc (ok_iconst dL_law_1039 (by decide)) (
  kc (ok_iadd dL_law_1040) (
  kc (ok_sld dL_law_1041 rfl) (
  kc (ok_aload_n dL_law_1042 rfl) (
  kc (ok_iload_n dL_law_1043 rfl) (
  kc (ok_iconst dL_law_1044 (by decide)) (
  kc (ok_iadd dL_law_1045) (
  kc (ok_sld dL_law_1046 rfl) (
  kc (ok_aload_n dL_law_1047 rfl) (
  kc (ok_iload_n dL_law_1048 rfl) (
  kc (ok_iconst dL_law_1049 (by decide)) (
  kc (ok_iadd dL_law_1050) (
  kc (ok_sld dL_law_1051 rfl) (
  kc (ok_callV (T := TX5) dL_law_1052 qm_83 rfl rfl rfl hw_582 hw_583 hw_584 qp_83) (
  kc (ok_aload_n dL_law_1055 rfl) (
  kc (ok_aload_n dL_law_1056 rfl) (
  kc (ok_iload_n dL_law_1057 rfl) (
  kc (ok_iconst dL_law_1058 (by decide)) (
  kc (ok_iadd dL_law_1059) (
  kc (ok_sld dL_law_1060 rfl) (
  kc (ok_aload_n dL_law_1061 rfl) (
  kc (ok_iload_n dL_law_1062 rfl) (
  kc (ok_iconst dL_law_1063 (by decide)) (
  kc (ok_iadd dL_law_1064) (
  kc (ok_sld dL_law_1065 rfl) (
  kn))))))))))))))))))))))))))))))))))))))))))))))))))))))))))))))))))))))))))))))))))))))))))))))))))))))))))))))))))))))))
def cd_law6 (L : Nat) (xs : Nat → Int32) : List (Nat × qOp) := [
  (1066, oLdA 0 1067),
  (1067, oLdI 3 1068),
  (1068, oI (3) 1069),
  (1069, oBin (fun x y => x + y) 1070),
  (1070, oSLd L xs 1071),
  (1071, oLdA 0 1072),
  (1072, oLdI 3 1073),
  (1073, oI (4) 1074),
  (1074, oBin (fun x y => x + y) 1075),
  (1075, oSLd L xs 1076),
  (1076, oLdA 0 1077),
  (1077, oLdI 3 1078),
  (1078, oI (5) 1079),
  (1079, oBin (fun x y => x + y) 1080),
  (1080, oSLd L xs 1081),
  (1081, oCallV 165 6 5 0 0 600000 7302250 1084),
  (1084, oCmEq 1350 1087),
  (1087, oI (0) 1088),
  (1088, oRetZ),
  (1089, oLdA 1 1090),
  (1090, oCallV 84 5 0 0 0 600000 7302250 1093),
  (1093, oLdA 2 1094),
  (1094, oCallV 168 6 0 0 0 600000 7302250 1097),
  (1097, oCmEq 1350 1100),
  (1100, oI (0) 1101),
  (1101, oRetZ),
  (1102, oLdA 1 1103),
  (1103, oCallV 85 5 0 0 0 600000 7302250 1106),
  (1106, oLdA 2 1107),
  (1107, oCallV 169 6 0 0 0 600000 7302250 1110),
  (1110, oCmEq 1350 1113),
  (1113, oI (0) 1114),
  (1114, oRetZ),
  (1115, oLdA 1 1116),
  (1116, oLdA 0 1117),
  (1117, oLdI 3 1118),
  (1118, oI (1) 1119),
  (1119, oBin (fun x y => x + y) 1120),
  (1120, oSLd L xs 1121),
  (1121, oLdA 0 1122),
  (1122, oLdI 3 1123),
  (1123, oI (2) 1124),
  (1124, oBin (fun x y => x + y) 1125),
  (1125, oSLd L xs 1126),
  (1126, oLdA 0 1127),
  (1127, oLdI 3 1128),
  (1128, oI (3) 1129),
  (1129, oBin (fun x y => x + y) 1130),
  (1130, oSLd L xs 1131),
  (1131, oLdA 0 1132),
  (1132, oLdI 3 1133),
  (1133, oI (4) 1134),
  (1134, oBin (fun x y => x + y) 1135),
  (1135, oSLd L xs 1136),
  (1136, oCallV 86 5 4 0 0 600000 7302250 1139),
  (1139, oLdA 2 1140),
  (1140, oLdA 0 1141),
  (1141, oLdI 3 1142),
  (1142, oI (1) 1143),
  (1143, oBin (fun x y => x + y) 1144),
  (1144, oSLd L xs 1145),
  (1145, oLdA 0 1146),
  (1146, oLdI 3 1147),
  (1147, oI (2) 1148),
  (1148, oBin (fun x y => x + y) 1149),
  (1149, oSLd L xs 1150),
  (1150, oLdA 0 1151),
  (1151, oLdI 3 1152),
  (1152, oI (3) 1153),
  (1153, oBin (fun x y => x + y) 1154),
  (1154, oSLd L xs 1155),
  (1155, oLdA 0 1156),
  (1156, oLdI 3 1157),
  (1157, oI (4) 1158),
  (1158, oBin (fun x y => x + y) 1159),
  (1159, oSLd L xs 1160),
  (1160, oCallV 173 6 4 0 0 600000 7302250 1163),
  (1163, oCmEq 1350 1166),
  (1166, oI (0) 1167),
  (1167, oRetZ),
  (1168, oLdA 1 1169),
  (1169, oLdA 0 1170),
  (1170, oLdI 3 1171),
  (1171, oI (1) 1172),
  (1172, oBin (fun x y => x + y) 1173),
  (1173, oSLd L xs 1174),
  (1174, oLdA 0 1175),
  (1175, oLdI 3 1176),
  (1176, oI (2) 1177),
  (1177, oBin (fun x y => x + y) 1178),
  (1178, oSLd L xs 1179),
  (1179, oLdA 0 1180),
  (1180, oLdI 3 1181),
  (1181, oI (3) 1182),
  (1182, oBin (fun x y => x + y) 1183),
  (1183, oSLd L xs 1184),
  (1184, oCallV 87 5 3 0 0 600000 7302250 1187),
  (1187, oLdA 2 1188),
  (1188, oLdA 0 1189),
  (1189, oLdI 3 1190),
  (1190, oI (1) 1191),
  (1191, oBin (fun x y => x + y) 1192),
  (1192, oSLd L xs 1193),
  (1193, oLdA 0 1194),
  (1194, oLdI 3 1195),
  (1195, oI (2) 1196),
  (1196, oBin (fun x y => x + y) 1197),
  (1197, oSLd L xs 1198),
  (1198, oLdA 0 1199),
  (1199, oLdI 3 1200),
  (1200, oI (3) 1201),
  (1201, oBin (fun x y => x + y) 1202),
  (1202, oSLd L xs 1203),
  (1203, oCallV 174 6 3 0 0 600000 7302250 1206),
  (1206, oCmEq 1350 1209),
  (1209, oI (0) 1210),
  (1210, oRetZ),
  (1211, oLdA 1 1212),
  (1212, oLdA 0 1213),
  (1213, oLdI 3 1214)]
set_option maxRecDepth 100000 in
theorem ck_law6 (L : Nat) (xs : Nat → Int32) {ini : Bool} : ∀ x ∈ cd_law6 L xs, OpOK qMT code RL 4 ret ini 600000 7302250 (some (L, xs)) x.1 x.2 :=
  kc (ok_aload_n dL_law_1066 rfl) (
  kc (ok_iload_n dL_law_1067 rfl) (
  kc (ok_iconst dL_law_1068 (by decide)) (
  kc (ok_iadd dL_law_1069) (
  kc (ok_sld dL_law_1070 rfl) (
  kc (ok_aload_n dL_law_1071 rfl) (
  kc (ok_iload_n dL_law_1072 rfl) (
  kc (ok_iconst dL_law_1073 (by decide)) (
  kc (ok_iadd dL_law_1074) (
  kc (ok_sld dL_law_1075 rfl) (
  kc (ok_aload_n dL_law_1076 rfl) (
  kc (ok_iload_n dL_law_1077 rfl) (
  kc (ok_iconst dL_law_1078 (by decide)) (
  kc (ok_iadd dL_law_1079) (
  kc (ok_sld dL_law_1080 rfl) (
  kc (ok_callV (T := TX6) dL_law_1081 qm_165 rfl rfl rfl hw_1009 hw_1010 hw_1011 qp_165) (
  kc (ok_cm_eq dL_law_1084 (by decide)) (
  kc (ok_iconst dL_law_1087 (by decide)) (
  kc (ok_retZ dL_law_1088 rfl) (
  kc (ok_aload_n dL_law_1089 rfl) (
  kc (ok_callV (T := TX5) dL_law_1090 qm_84 rfl rfl rfl hw_587 hw_588 hw_589 qp_84) (
  kc (ok_aload_n dL_law_1093 rfl) (
  kc (ok_callV (T := TX6) dL_law_1094 qm_168 rfl rfl rfl hw_1014 hw_1015 hw_1016 qp_168) (
  kc (ok_cm_eq dL_law_1097 (by decide)) (
  kc (ok_iconst dL_law_1100 (by decide)) (
  kc (ok_retZ dL_law_1101 rfl) (
  kc (ok_aload_n dL_law_1102 rfl) (
  kc (ok_callV (T := TX5) dL_law_1103 qm_85 rfl rfl rfl hw_596 hw_597 hw_598 qp_85) (
  kc (ok_aload_n dL_law_1106 rfl) (
  kc (ok_callV (T := TX6) dL_law_1107 qm_169 rfl rfl rfl hw_1022 hw_1023 hw_1024 qp_169) (
  kc (ok_cm_eq dL_law_1110 (by decide)) (
  kc (ok_iconst dL_law_1113 (by decide)) (
  kc (ok_retZ dL_law_1114 rfl) (
  kc (ok_aload_n dL_law_1115 rfl) (
  kc (ok_aload_n dL_law_1116 rfl) (
  kc (ok_iload_n dL_law_1117 rfl) (
  kc (ok_iconst dL_law_1118 (by decide)) (
  kc (ok_iadd dL_law_1119) (
  kc (ok_sld dL_law_1120 rfl) (
  kc (ok_aload_n dL_law_1121 rfl) (
  kc (ok_iload_n dL_law_1122 rfl) (
  kc (ok_iconst dL_law_1123 (by decide)) (
  kc (ok_iadd dL_law_1124) (
  kc (ok_sld dL_law_1125 rfl) (
  kc (ok_aload_n dL_law_1126 rfl) (
  kc (ok_iload_n dL_law_1127 rfl) (
  kc (ok_iconst dL_law_1128 (by decide)) (
  kc (ok_iadd dL_law_1129) (
  kc (ok_sld dL_law_1130 rfl) (
  kc (ok_aload_n dL_law_1131 rfl) (
  kc (ok_iload_n dL_law_1132 rfl) (
  kc (ok_iconst dL_law_1133 (by decide)) (
  kc (ok_iadd dL_law_1134) (
  kc (ok_sld dL_law_1135 rfl) (
  kc (ok_callV (T := TX5) dL_law_1136 qm_86 rfl rfl rfl hw_600 hw_601 hw_602 qp_86) (
  kc (ok_aload_n dL_law_1139 rfl) (
  kc (ok_aload_n dL_law_1140 rfl) (
  kc (ok_iload_n dL_law_1141 rfl) (
  kc (ok_iconst dL_law_1142 (by decide)) (
  kc (ok_iadd dL_law_1143) (
  kc (ok_sld dL_law_1144 rfl) (
  kc (ok_aload_n dL_law_1145 rfl) (
  kc (ok_iload_n dL_law_1146 rfl) (
  kc (ok_iconst dL_law_1147 (by decide)) (
  kc (ok_iadd dL_law_1148) (
  kc (ok_sld dL_law_1149 rfl) (
  kc (ok_aload_n dL_law_1150 rfl) (
  kc (ok_iload_n dL_law_1151 rfl) (
  kc (ok_iconst dL_law_1152 (by decide)) (
  kc (ok_iadd dL_law_1153) (
  kc (ok_sld dL_law_1154 rfl) (
  kc (ok_aload_n dL_law_1155 rfl) (
  kc (ok_iload_n dL_law_1156 rfl) (
  kc (ok_iconst dL_law_1157 (by decide)) (
  kc (ok_iadd dL_law_1158) (
  kc (ok_sld dL_law_1159 rfl) (
  kc (ok_callV (T := TX6) dL_law_1160 qm_173 rfl rfl rfl hw_1029 hw_1030 hw_1031 qp_173) (
  kc (ok_cm_eq dL_law_1163 (by decide)) (
  kc (ok_iconst dL_law_1166 (by decide)) (
  kc (ok_retZ dL_law_1167 rfl) (
  kc (ok_aload_n dL_law_1168 rfl) (
  kc (ok_aload_n dL_law_1169 rfl) (
  kc (ok_iload_n dL_law_1170 rfl) (
  kc (ok_iconst dL_law_1171 (by decide)) (
  kc (ok_iadd dL_law_1172) (
  kc (ok_sld dL_law_1173 rfl) (
  kc (ok_aload_n dL_law_1174 rfl) (
  kc (ok_iload_n dL_law_1175 rfl) (
  kc (ok_iconst dL_law_1176 (by decide)) (
  kc (ok_iadd dL_law_1177) (
  kc (ok_sld dL_law_1178 rfl) (
  kc (ok_aload_n dL_law_1179 rfl) (
  kc (ok_iload_n dL_law_1180 rfl) (
  kc (ok_iconst dL_law_1181 (by decide)) (
  kc (ok_iadd dL_law_1182) (
  kc (ok_sld dL_law_1183 rfl) (
  kc (ok_callV (T := TX5) dL_law_1184 qm_87 rfl rfl rfl hw_623 hw_624 hw_625 qp_87) (
  kc (ok_aload_n dL_law_1187 rfl) (
  kc (ok_aload_n dL_law_1188 rfl) (
  kc (ok_iload_n dL_law_1189 rfl) (
  kc (ok_iconst dL_law_1190 (by decide)) (
  kc (ok_iadd dL_law_1191) (
  kc (ok_sld dL_law_1192 rfl) (
  kc (ok_aload_n dL_law_1193 rfl) (
  kc (ok_iload_n dL_law_1194 rfl) (
  kc (ok_iconst dL_law_1195 (by decide)) (
  kc (ok_iadd dL_law_1196) (
  kc (ok_sld dL_law_1197 rfl) (
  kc (ok_aload_n dL_law_1198 rfl) (
  kc (ok_iload_n dL_law_1199 rfl) (
  kc (ok_iconst dL_law_1200 (by decide)) (
  kc (ok_iadd dL_law_1201) (
  kc (ok_sld dL_law_1202 rfl) (
  kc (ok_callV (T := TX6) dL_law_1203 qm_174 rfl rfl rfl hw_1044 hw_1045 hw_1046 qp_174) (
  kc (ok_cm_eq dL_law_1206 (by decide)) (
  kc (ok_iconst dL_law_1209 (by decide)) (
  kc (ok_retZ dL_law_1210 rfl) (
  kc (ok_aload_n dL_law_1211 rfl) (
  kc (ok_aload_n dL_law_1212 rfl) (
  kc (ok_iload_n dL_law_1213 rfl) (
  kn))))))))))))))))))))))))))))))))))))))))))))))))))))))))))))))))))))))))))))))))))))))))))))))))))))))))))))))))))))))))
def cd_law7 (L : Nat) (xs : Nat → Int32) : List (Nat × qOp) := [
  (1214, oI (1) 1215),
  (1215, oBin (fun x y => x + y) 1216),
  (1216, oSLd L xs 1217),
  (1217, oCallV 88 5 1 0 0 600000 7302250 1220),
  (1220, oLdA 2 1221),
  (1221, oLdA 0 1222),
  (1222, oLdI 3 1223),
  (1223, oI (1) 1224),
  (1224, oBin (fun x y => x + y) 1225),
  (1225, oSLd L xs 1226),
  (1226, oCallV 175 6 1 0 0 600000 7302250 1229),
  (1229, oCmEq 1350 1232),
  (1232, oI (0) 1233),
  (1233, oRetZ),
  (1234, oLdA 1 1235),
  (1235, oLdA 0 1236),
  (1236, oLdI 3 1237),
  (1237, oI (1) 1238),
  (1238, oBin (fun x y => x + y) 1239),
  (1239, oSLd L xs 1240),
  (1240, oLdA 0 1241),
  (1241, oLdI 3 1242),
  (1242, oI (2) 1243),
  (1243, oBin (fun x y => x + y) 1244),
  (1244, oSLd L xs 1245),
  (1245, oLdA 0 1246),
  (1246, oLdI 3 1247),
  (1247, oI (3) 1248),
  (1248, oBin (fun x y => x + y) 1249),
  (1249, oSLd L xs 1250),
  (1250, oLdA 0 1251),
  (1251, oLdI 3 1252),
  (1252, oI (4) 1253),
  (1253, oBin (fun x y => x + y) 1254),
  (1254, oSLd L xs 1255),
  (1255, oCallV 89 5 4 0 0 600000 7302250 1258),
  (1258, oLdA 2 1259),
  (1259, oLdA 0 1260),
  (1260, oLdI 3 1261),
  (1261, oI (1) 1262),
  (1262, oBin (fun x y => x + y) 1263),
  (1263, oSLd L xs 1264),
  (1264, oLdA 0 1265),
  (1265, oLdI 3 1266),
  (1266, oI (2) 1267),
  (1267, oBin (fun x y => x + y) 1268),
  (1268, oSLd L xs 1269),
  (1269, oLdA 0 1270),
  (1270, oLdI 3 1271),
  (1271, oI (3) 1272),
  (1272, oBin (fun x y => x + y) 1273),
  (1273, oSLd L xs 1274),
  (1274, oLdA 0 1275),
  (1275, oLdI 3 1276),
  (1276, oI (4) 1277),
  (1277, oBin (fun x y => x + y) 1278),
  (1278, oSLd L xs 1279),
  (1279, oCallV 176 6 4 0 0 600000 7302250 1282),
  (1282, oCmEq 1350 1285),
  (1285, oI (0) 1286),
  (1286, oRetZ),
  (1287, oLdA 1 1288),
  (1288, oLdA 0 1289),
  (1289, oLdI 3 1290),
  (1290, oI (1) 1291),
  (1291, oBin (fun x y => x + y) 1292),
  (1292, oSLd L xs 1293),
  (1293, oLdA 0 1294),
  (1294, oLdI 3 1295),
  (1295, oI (2) 1296),
  (1296, oBin (fun x y => x + y) 1297),
  (1297, oSLd L xs 1298),
  (1298, oLdA 0 1299),
  (1299, oLdI 3 1300),
  (1300, oI (3) 1301),
  (1301, oBin (fun x y => x + y) 1302),
  (1302, oSLd L xs 1303),
  (1303, oLdA 0 1304),
  (1304, oLdI 3 1305),
  (1305, oI (4) 1306),
  (1306, oBin (fun x y => x + y) 1307),
  (1307, oSLd L xs 1308),
  (1308, oLdA 0 1309),
  (1309, oLdI 3 1310),
  (1310, oI (5) 1311),
  (1311, oBin (fun x y => x + y) 1312),
  (1312, oSLd L xs 1313),
  (1313, oCallV 90 5 5 0 0 600000 7302250 1316),
  (1316, oLdA 2 1317),
  (1317, oLdA 0 1318),
  (1318, oLdI 3 1319),
  (1319, oI (1) 1320),
  (1320, oBin (fun x y => x + y) 1321),
  (1321, oSLd L xs 1322),
  (1322, oLdA 0 1323),
  (1323, oLdI 3 1324),
  (1324, oI (2) 1325),
  (1325, oBin (fun x y => x + y) 1326),
  (1326, oSLd L xs 1327),
  (1327, oLdA 0 1328),
  (1328, oLdI 3 1329),
  (1329, oI (3) 1330),
  (1330, oBin (fun x y => x + y) 1331),
  (1331, oSLd L xs 1332),
  (1332, oLdA 0 1333),
  (1333, oLdI 3 1334),
  (1334, oI (4) 1335),
  (1335, oBin (fun x y => x + y) 1336),
  (1336, oSLd L xs 1337),
  (1337, oLdA 0 1338),
  (1338, oLdI 3 1339),
  (1339, oI (5) 1340),
  (1340, oBin (fun x y => x + y) 1341),
  (1341, oSLd L xs 1342),
  (1342, oCallV 177 6 5 0 0 600000 7302250 1345),
  (1345, oCmEq 1350 1348),
  (1348, oI (0) 1349),
  (1349, oRetZ),
  (1350, oInc 3 (6) 1353),
  (1353, oGoto 18)]
set_option maxRecDepth 100000 in
theorem ck_law7 (L : Nat) (xs : Nat → Int32) {ini : Bool} : ∀ x ∈ cd_law7 L xs, OpOK qMT code RL 4 ret ini 600000 7302250 (some (L, xs)) x.1 x.2 :=
  kc (ok_iconst dL_law_1214 (by decide)) (
  kc (ok_iadd dL_law_1215) (
  kc (ok_sld dL_law_1216 rfl) (
  kc (ok_callV (T := TX5) dL_law_1217 qm_88 rfl rfl rfl hw_631 hw_632 hw_633 qp_88) (
  kc (ok_aload_n dL_law_1220 rfl) (
  kc (ok_aload_n dL_law_1221 rfl) (
  kc (ok_iload_n dL_law_1222 rfl) (
  kc (ok_iconst dL_law_1223 (by decide)) (
  kc (ok_iadd dL_law_1224) (
  kc (ok_sld dL_law_1225 rfl) (
  kc (ok_callV (T := TX6) dL_law_1226 qm_175 rfl rfl rfl hw_1048 hw_1049 hw_1050 qp_175) (
  kc (ok_cm_eq dL_law_1229 (by decide)) (
  kc (ok_iconst dL_law_1232 (by decide)) (
  kc (ok_retZ dL_law_1233 rfl) (
  kc (ok_aload_n dL_law_1234 rfl) (
  kc (ok_aload_n dL_law_1235 rfl) (
  kc (ok_iload_n dL_law_1236 rfl) (
  kc (ok_iconst dL_law_1237 (by decide)) (
  kc (ok_iadd dL_law_1238) (
  kc (ok_sld dL_law_1239 rfl) (
  kc (ok_aload_n dL_law_1240 rfl) (
  kc (ok_iload_n dL_law_1241 rfl) (
  kc (ok_iconst dL_law_1242 (by decide)) (
  kc (ok_iadd dL_law_1243) (
  kc (ok_sld dL_law_1244 rfl) (
  kc (ok_aload_n dL_law_1245 rfl) (
  kc (ok_iload_n dL_law_1246 rfl) (
  kc (ok_iconst dL_law_1247 (by decide)) (
  kc (ok_iadd dL_law_1248) (
  kc (ok_sld dL_law_1249 rfl) (
  kc (ok_aload_n dL_law_1250 rfl) (
  kc (ok_iload_n dL_law_1251 rfl) (
  kc (ok_iconst dL_law_1252 (by decide)) (
  kc (ok_iadd dL_law_1253) (
  kc (ok_sld dL_law_1254 rfl) (
  kc (ok_callV (T := TX5) dL_law_1255 qm_89 rfl rfl rfl hw_635 hw_636 hw_637 qp_89) (
  kc (ok_aload_n dL_law_1258 rfl) (
  kc (ok_aload_n dL_law_1259 rfl) (
  kc (ok_iload_n dL_law_1260 rfl) (
  kc (ok_iconst dL_law_1261 (by decide)) (
  kc (ok_iadd dL_law_1262) (
  kc (ok_sld dL_law_1263 rfl) (
  kc (ok_aload_n dL_law_1264 rfl) (
  kc (ok_iload_n dL_law_1265 rfl) (
  kc (ok_iconst dL_law_1266 (by decide)) (
  kc (ok_iadd dL_law_1267) (
  kc (ok_sld dL_law_1268 rfl) (
  kc (ok_aload_n dL_law_1269 rfl) (
  kc (ok_iload_n dL_law_1270 rfl) (
  kc (ok_iconst dL_law_1271 (by decide)) (
  kc (ok_iadd dL_law_1272) (
  kc (ok_sld dL_law_1273 rfl) (
  kc (ok_aload_n dL_law_1274 rfl) (
  kc (ok_iload_n dL_law_1275 rfl) (
  kc (ok_iconst dL_law_1276 (by decide)) (
  kc (ok_iadd dL_law_1277) (
  kc (ok_sld dL_law_1278 rfl) (
  kc (ok_callV (T := TX6) dL_law_1279 qm_176 rfl rfl rfl hw_1052 hw_1053 hw_1054 qp_176) (
  kc (ok_cm_eq dL_law_1282 (by decide)) (
  kc (ok_iconst dL_law_1285 (by decide)) (
  kc (ok_retZ dL_law_1286 rfl) (
  kc (ok_aload_n dL_law_1287 rfl) (
  kc (ok_aload_n dL_law_1288 rfl) (
  kc (ok_iload_n dL_law_1289 rfl) (
  kc (ok_iconst dL_law_1290 (by decide)) (
  kc (ok_iadd dL_law_1291) (
  kc (ok_sld dL_law_1292 rfl) (
  kc (ok_aload_n dL_law_1293 rfl) (
  kc (ok_iload_n dL_law_1294 rfl) (
  kc (ok_iconst dL_law_1295 (by decide)) (
  kc (ok_iadd dL_law_1296) (
  kc (ok_sld dL_law_1297 rfl) (
  kc (ok_aload_n dL_law_1298 rfl) (
  kc (ok_iload_n dL_law_1299 rfl) (
  kc (ok_iconst dL_law_1300 (by decide)) (
  kc (ok_iadd dL_law_1301) (
  kc (ok_sld dL_law_1302 rfl) (
  kc (ok_aload_n dL_law_1303 rfl) (
  kc (ok_iload_n dL_law_1304 rfl) (
  kc (ok_iconst dL_law_1305 (by decide)) (
  kc (ok_iadd dL_law_1306) (
  kc (ok_sld dL_law_1307 rfl) (
  kc (ok_aload_n dL_law_1308 rfl) (
  kc (ok_iload_n dL_law_1309 rfl) (
  kc (ok_iconst dL_law_1310 (by decide)) (
  kc (ok_iadd dL_law_1311) (
  kc (ok_sld dL_law_1312 rfl) (
  kc (ok_callV (T := TX5) dL_law_1313 qm_90 rfl rfl rfl hw_642 hw_643 hw_644 qp_90) (
  kc (ok_aload_n dL_law_1316 rfl) (
  kc (ok_aload_n dL_law_1317 rfl) (
  kc (ok_iload_n dL_law_1318 rfl) (
  kc (ok_iconst dL_law_1319 (by decide)) (
  kc (ok_iadd dL_law_1320) (
  kc (ok_sld dL_law_1321 rfl) (
  kc (ok_aload_n dL_law_1322 rfl) (
  kc (ok_iload_n dL_law_1323 rfl) (
  kc (ok_iconst dL_law_1324 (by decide)) (
  kc (ok_iadd dL_law_1325) (
  kc (ok_sld dL_law_1326 rfl) (
  kc (ok_aload_n dL_law_1327 rfl) (
  kc (ok_iload_n dL_law_1328 rfl) (
  kc (ok_iconst dL_law_1329 (by decide)) (
  kc (ok_iadd dL_law_1330) (
  kc (ok_sld dL_law_1331 rfl) (
  kc (ok_aload_n dL_law_1332 rfl) (
  kc (ok_iload_n dL_law_1333 rfl) (
  kc (ok_iconst dL_law_1334 (by decide)) (
  kc (ok_iadd dL_law_1335) (
  kc (ok_sld dL_law_1336 rfl) (
  kc (ok_aload_n dL_law_1337 rfl) (
  kc (ok_iload_n dL_law_1338 rfl) (
  kc (ok_iconst dL_law_1339 (by decide)) (
  kc (ok_iadd dL_law_1340) (
  kc (ok_sld dL_law_1341 rfl) (
  kc (ok_callV (T := TX6) dL_law_1342 qm_177 rfl rfl rfl hw_1056 hw_1057 hw_1058 qp_177) (
  kc (ok_cm_eq dL_law_1345 (by decide)) (
  kc (ok_iconst dL_law_1348 (by decide)) (
  kc (ok_retZ dL_law_1349 rfl) (
  kc (ok_iinc dL_law_1350 (by decide)) (
  kc (ok_goto dL_law_1353 (by decide)) (
  kn))))))))))))))))))))))))))))))))))))))))))))))))))))))))))))))))))))))))))))))))))))))))))))))))))))))))))))))))))))))))
def cd_law8 (L : Nat) (xs : Nat → Int32) : List (Nat × qOp) := [
  (1356, oI (1) 1357),
  (1357, oRetZ)]
set_option maxRecDepth 100000 in
theorem ck_law8 (L : Nat) (xs : Nat → Int32) {ini : Bool} : ∀ x ∈ cd_law8 L xs, OpOK qMT code RL 4 ret ini 600000 7302250 (some (L, xs)) x.1 x.2 :=
  kc (ok_iconst dL_law_1356 (by decide)) (
  kc (ok_retZ dL_law_1357 rfl) (
  kn))
def cd_law (L : Nat) (xs : Nat → Int32) : List (Nat × qOp) := cd_law0 L xs ++ (cd_law1 L xs ++ (cd_law2 L xs ++ (cd_law3 L xs ++ (cd_law4 L xs ++ (cd_law5 L xs ++ (cd_law6 L xs ++ (cd_law7 L xs ++ (cd_law8 L xs))))))))
theorem ck_law (L : Nat) (xs : Nat → Int32) {ini : Bool} : ∀ x ∈ cd_law L xs, OpOK qMT code RL 4 ret ini 600000 7302250 (some (L, xs)) x.1 x.2 := List.forall_mem_append.mpr ⟨ck_law0 L xs, List.forall_mem_append.mpr ⟨ck_law1 L xs, List.forall_mem_append.mpr ⟨ck_law2 L xs, List.forall_mem_append.mpr ⟨ck_law3 L xs, List.forall_mem_append.mpr ⟨ck_law4 L xs, List.forall_mem_append.mpr ⟨ck_law5 L xs, List.forall_mem_append.mpr ⟨ck_law6 L xs, List.forall_mem_append.mpr ⟨ck_law7 L xs, ck_law8 L xs⟩⟩⟩⟩⟩⟩⟩⟩
