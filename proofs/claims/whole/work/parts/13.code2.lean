def cd_X4_sell : List (Nat × qOp) := [
  (0, oLdA 0 1),
  (1, oGet 4 0 4),
  (4, oGet 0 1 7),
  (7, oLdI 1 8),
  (8, oALd 9),
  (9, oStI 4 11),
  (11, oLdA 0 12),
  (12, oGet 4 1 15),
  (15, oLdI 2 16),
  (16, oDup2 17),
  (17, oALd 18),
  (18, oLdI 3 19),
  (19, oBin (fun x y => x - y) 20),
  (20, oASt 21),
  (21, oLdI 4 23),
  (23, oI (6) 25),
  (25, oCmEq 50 28),
  (28, oLdA 0 29),
  (29, oGet 4 1 32),
  (32, oLdI 4 34),
  (34, oI (9999) 37),
  (37, oLdA 0 38),
  (38, oGet 4 1 41),
  (41, oLdI 4 43),
  (43, oALd 44),
  (44, oLdI 3 45),
  (45, oBin (fun x y => x + y) 46),
  (46, oMin 0 0 49),
  (49, oASt 50),
  (50, oLdA 0 51),
  (51, oDup 52),
  (52, oGet 4 4 55),
  (55, oI (1) 56),
  (56, oBin (fun x y => x + y) 57),
  (57, oPutI 4 4 60),
  (60, oLdA 0 61),
  (61, oGet 4 0 64),
  (64, oLdI 1 65),
  (65, oLdI 2 66),
  (66, oCallV 6 0 2 0 0 0 0 69),
  (69, oRetI)]
set_option maxRecDepth 100000 in
theorem ck_X4_sell {ini : Bool} : ∀ x ∈ cd_X4_sell, OpOK qMT cX4_sell RX4 5 (some .int) ini 0 0 none x.1 x.2 :=
  kc (ok_aload_n dX4_sell_0 rfl) (
  kc (ok_get (T := TX4) (k := 0) dX4_sell_1 rfl hin_X4 (by decide) hw_119) (
  kc (ok_get (T := TX0) (k := 1) dX4_sell_4 rfl hin_X0 (by decide) hw_85) (
  kc (ok_iload_n dX4_sell_7 rfl) (
  kc (ok_iaload dX4_sell_8) (
  kc (ok_istore dX4_sell_9) (
  kc (ok_aload_n dX4_sell_11 rfl) (
  kc (ok_get (T := TX4) (k := 1) dX4_sell_12 rfl hin_X4 (by decide) hw_121) (
  kc (ok_iload_n dX4_sell_15 rfl) (
  kc (ok_dup2 dX4_sell_16) (
  kc (ok_iaload dX4_sell_17) (
  kc (ok_iload_n dX4_sell_18 rfl) (
  kc (ok_isub dX4_sell_19) (
  kc (ok_iastore dX4_sell_20) (
  kc (ok_iload dX4_sell_21) (
  kc (ok_bipush dX4_sell_23 (by decide)) (
  kc (ok_cm_eq dX4_sell_25 (by decide)) (
  kc (ok_aload_n dX4_sell_28 rfl) (
  kc (ok_get (T := TX4) (k := 1) dX4_sell_29 rfl hin_X4 (by decide) hw_121) (
  kc (ok_iload dX4_sell_32) (
  kc (ok_sipush dX4_sell_34 (by decide)) (
  kc (ok_aload_n dX4_sell_37 rfl) (
  kc (ok_get (T := TX4) (k := 1) dX4_sell_38 rfl hin_X4 (by decide) hw_121) (
  kc (ok_iload dX4_sell_41) (
  kc (ok_iaload dX4_sell_43) (
  kc (ok_iload_n dX4_sell_44 rfl) (
  kc (ok_iadd dX4_sell_45) (
  kc (ok_min dX4_sell_46 hw_407 hw_408 hw_61 hw_409) (
  kc (ok_iastore dX4_sell_49) (
  kc (ok_aload_n dX4_sell_50 rfl) (
  kc (ok_dup dX4_sell_51) (
  kc (ok_get (T := TX4) (k := 4) dX4_sell_52 rfl hin_X4 (by decide) hw_127) (
  kc (ok_iconst dX4_sell_55 (by decide)) (
  kc (ok_iadd dX4_sell_56) (
  kc (ok_putI (T := TX4) (k := 4) dX4_sell_57 rfl hin_X4 tyX4_ok nmX4 (by decide) hw_127 rfl (tyX4_ok 4 (by decide))) (
  kc (ok_aload_n dX4_sell_60 rfl) (
  kc (ok_get (T := TX4) (k := 0) dX4_sell_61 rfl hin_X4 (by decide) hw_119) (
  kc (ok_iload_n dX4_sell_64 rfl) (
  kc (ok_iload_n dX4_sell_65 rfl) (
  kc (ok_callV (T := TX0) dX4_sell_66 qm_6 rfl rfl rfl hw_410 hw_411 hw_412 qp_6) (
  kc (ok_retI dX4_sell_69 rfl) (
  kn)))))))))))))))))))))))))))))))))))))))))
def cd_X4_split : List (Nat × qOp) := [
  (0, oLdA 0 1),
  (1, oGet 4 0 4),
  (4, oLdI 1 5),
  (5, oLdI 2 6),
  (6, oCallV 12 0 2 0 0 0 0 9),
  (9, oStI 3 10),
  (10, oI (0) 11),
  (11, oStI 4 13),
  (13, oLdI 4 15),
  (15, oI (6) 17),
  (17, oCmGe 77 20),
  (20, oLdA 0 21),
  (21, oGet 4 3 24),
  (24, oLdI 1 25),
  (25, oI (6) 27),
  (27, oBin (fun x y => x * y) 28),
  (28, oLdI 4 30),
  (30, oBin (fun x y => x + y) 31),
  (31, oALd 32),
  (32, oStI 5 34),
  (34, oLdI 5 36),
  (36, oI (2) 37),
  (37, oDiv (fun x y => x / y) 38),
  (38, oStI 6 40),
  (40, oLdA 0 41),
  (41, oGet 4 3 44),
  (44, oLdI 3 45),
  (45, oI (6) 47),
  (47, oBin (fun x y => x * y) 48),
  (48, oLdI 4 50),
  (50, oBin (fun x y => x + y) 51),
  (51, oLdI 6 53),
  (53, oASt 54),
  (54, oLdA 0 55),
  (55, oGet 4 3 58),
  (58, oLdI 1 59),
  (59, oI (6) 61),
  (61, oBin (fun x y => x * y) 62),
  (62, oLdI 4 64),
  (64, oBin (fun x y => x + y) 65),
  (65, oLdI 5 67),
  (67, oLdI 6 69),
  (69, oBin (fun x y => x - y) 70),
  (70, oASt 71),
  (71, oInc 4 (1) 74),
  (74, oGoto 13),
  (77, oLdI 3 78),
  (78, oRetI)]
set_option maxRecDepth 100000 in
theorem ck_X4_split {ini : Bool} : ∀ x ∈ cd_X4_split, OpOK qMT cX4_split RX4 7 (some .int) ini 0 0 none x.1 x.2 :=
  kc (ok_aload_n dX4_split_0 rfl) (
  kc (ok_get (T := TX4) (k := 0) dX4_split_1 rfl hin_X4 (by decide) hw_119) (
  kc (ok_iload_n dX4_split_4 rfl) (
  kc (ok_iload_n dX4_split_5 rfl) (
  kc (ok_callV (T := TX0) dX4_split_6 qm_12 rfl rfl rfl hw_452 hw_453 hw_454 qp_12) (
  kc (ok_istore_n dX4_split_9 rfl) (
  kc (ok_iconst dX4_split_10 (by decide)) (
  kc (ok_istore dX4_split_11) (
  kc (ok_iload dX4_split_13) (
  kc (ok_bipush dX4_split_15 (by decide)) (
  kc (ok_cm_ge dX4_split_17 (by decide)) (
  kc (ok_aload_n dX4_split_20 rfl) (
  kc (ok_get (T := TX4) (k := 3) dX4_split_21 rfl hin_X4 (by decide) hw_125) (
  kc (ok_iload_n dX4_split_24 rfl) (
  kc (ok_bipush dX4_split_25 (by decide)) (
  kc (ok_imul dX4_split_27) (
  kc (ok_iload dX4_split_28) (
  kc (ok_iadd dX4_split_30) (
  kc (ok_iaload dX4_split_31) (
  kc (ok_istore dX4_split_32) (
  kc (ok_iload dX4_split_34) (
  kc (ok_iconst dX4_split_36 (by decide)) (
  kc (ok_idiv dX4_split_37) (
  kc (ok_istore dX4_split_38) (
  kc (ok_aload_n dX4_split_40 rfl) (
  kc (ok_get (T := TX4) (k := 3) dX4_split_41 rfl hin_X4 (by decide) hw_125) (
  kc (ok_iload_n dX4_split_44 rfl) (
  kc (ok_bipush dX4_split_45 (by decide)) (
  kc (ok_imul dX4_split_47) (
  kc (ok_iload dX4_split_48) (
  kc (ok_iadd dX4_split_50) (
  kc (ok_iload dX4_split_51) (
  kc (ok_iastore dX4_split_53) (
  kc (ok_aload_n dX4_split_54 rfl) (
  kc (ok_get (T := TX4) (k := 3) dX4_split_55 rfl hin_X4 (by decide) hw_125) (
  kc (ok_iload_n dX4_split_58 rfl) (
  kc (ok_bipush dX4_split_59 (by decide)) (
  kc (ok_imul dX4_split_61) (
  kc (ok_iload dX4_split_62) (
  kc (ok_iadd dX4_split_64) (
  kc (ok_iload dX4_split_65) (
  kc (ok_iload dX4_split_67) (
  kc (ok_isub dX4_split_69) (
  kc (ok_iastore dX4_split_70) (
  kc (ok_iinc dX4_split_71 (by decide)) (
  kc (ok_goto dX4_split_74 (by decide)) (
  kc (ok_iload_n dX4_split_77 rfl) (
  kc (ok_retI dX4_split_78 rfl) (
  kn))))))))))))))))))))))))))))))))))))))))))))))))
def cd_X4_valueTo : List (Nat × qOp) := [
  (0, oLdA 0 1),
  (1, oGet 4 2 4),
  (4, oLdI 1 5),
  (5, oALd 6),
  (6, oUn (fun x => -x) 7),
  (7, oLdA 2 8),
  (8, oLdI 1 9),
  (9, oCallV 13 0 1 0 0 0 0 12),
  (12, oBin (fun x y => x * y) 13),
  (13, oStI 3 14),
  (14, oI (0) 15),
  (15, oStI 4 17),
  (17, oLdI 4 19),
  (19, oLdA 2 20),
  (20, oGet 0 4 23),
  (23, oCmGe 58 26),
  (26, oLdA 2 27),
  (27, oGet 0 1 30),
  (30, oLdI 4 32),
  (32, oALd 33),
  (33, oLdI 1 34),
  (34, oCmNe 52 37),
  (37, oLdI 3 38),
  (38, oLdA 0 39),
  (39, oGet 4 3 42),
  (42, oLdI 4 44),
  (44, oI (6) 46),
  (46, oBin (fun x y => x * y) 47),
  (47, oLdI 1 48),
  (48, oBin (fun x y => x + y) 49),
  (49, oALd 50),
  (50, oBin (fun x y => x + y) 51),
  (51, oStI 3 52),
  (52, oInc 4 (1) 55),
  (55, oGoto 17),
  (58, oLdI 3 59),
  (59, oRetI)]
set_option maxRecDepth 100000 in
theorem ck_X4_valueTo {ini : Bool} : ∀ x ∈ cd_X4_valueTo, OpOK qMT cX4_valueTo RX4 5 (some .int) ini 0 0 none x.1 x.2 :=
  kc (ok_aload_n dX4_valueTo_0 rfl) (
  kc (ok_get (T := TX4) (k := 2) dX4_valueTo_1 rfl hin_X4 (by decide) hw_123) (
  kc (ok_iload_n dX4_valueTo_4 rfl) (
  kc (ok_iaload dX4_valueTo_5) (
  kc (ok_ineg dX4_valueTo_6) (
  kc (ok_aload_n dX4_valueTo_7 rfl) (
  kc (ok_iload_n dX4_valueTo_8 rfl) (
  kc (ok_callV (T := TX0) dX4_valueTo_9 qm_13 rfl rfl rfl hw_321 hw_322 hw_323 qp_13) (
  kc (ok_imul dX4_valueTo_12) (
  kc (ok_istore_n dX4_valueTo_13 rfl) (
  kc (ok_iconst dX4_valueTo_14 (by decide)) (
  kc (ok_istore dX4_valueTo_15) (
  kc (ok_iload dX4_valueTo_17) (
  kc (ok_aload_n dX4_valueTo_19 rfl) (
  kc (ok_get (T := TX0) (k := 4) dX4_valueTo_20 rfl hin_X0 (by decide) hw_93) (
  kc (ok_cm_ge dX4_valueTo_23 (by decide)) (
  kc (ok_aload_n dX4_valueTo_26 rfl) (
  kc (ok_get (T := TX0) (k := 1) dX4_valueTo_27 rfl hin_X0 (by decide) hw_85) (
  kc (ok_iload dX4_valueTo_30) (
  kc (ok_iaload dX4_valueTo_32) (
  kc (ok_iload_n dX4_valueTo_33 rfl) (
  kc (ok_cm_ne dX4_valueTo_34 (by decide)) (
  kc (ok_iload_n dX4_valueTo_37 rfl) (
  kc (ok_aload_n dX4_valueTo_38 rfl) (
  kc (ok_get (T := TX4) (k := 3) dX4_valueTo_39 rfl hin_X4 (by decide) hw_125) (
  kc (ok_iload dX4_valueTo_42) (
  kc (ok_bipush dX4_valueTo_44 (by decide)) (
  kc (ok_imul dX4_valueTo_46) (
  kc (ok_iload_n dX4_valueTo_47 rfl) (
  kc (ok_iadd dX4_valueTo_48) (
  kc (ok_iaload dX4_valueTo_49) (
  kc (ok_iadd dX4_valueTo_50) (
  kc (ok_istore_n dX4_valueTo_51 rfl) (
  kc (ok_iinc dX4_valueTo_52 (by decide)) (
  kc (ok_goto dX4_valueTo_55 (by decide)) (
  kc (ok_iload_n dX4_valueTo_58 rfl) (
  kc (ok_retI dX4_valueTo_59 rfl) (
  kn)))))))))))))))))))))))))))))))))))))
def cd_X5_init : List (Nat × qOp) := [
  (0, oLdA 0 1),
  (1, oObj 4),
  (4, oLdA 0 5),
  (5, oNew 4 5 [some none, some none, some none, some none, none] 59 688 8),
  (8, oDup 9),
  (9, oCallI 47 0 8 101 59 688 12),
  (12, oPutF 5 0 15),
  (15, oLdA 0 16),
  (16, oNew 4 5 [some none, some none, some none, some none, none] 59 688 19),
  (19, oDup 20),
  (20, oCallI 47 0 8 101 59 688 23),
  (23, oPutF 5 1 26),
  (26, oLdA 0 27),
  (27, oI (0) 28),
  (28, oPutZ 5 2 31),
  (31, oLdA 0 32),
  (32, oNew 0 7 [some none, some none, some none, some none, none, none, none] 59 688 35),
  (35, oDup 36),
  (36, oCallI 0 0 4 34 59 688 39),
  (39, oPutF 5 3 42),
  (42, oLdA 0 43),
  (43, oNew 1 5 [some none, some none, some none, none, none] 59 688 46),
  (46, oDup 47),
  (47, oCallI 21 0 23 174 59 688 50),
  (50, oPutF 5 4 53),
  (53, oLdA 0 54),
  (54, oNew 3 4 [some none, none, none, some none] 59 688 57),
  (57, oDup 58),
  (58, oCallI 36 0 2 136 59 688 61),
  (61, oPutF 5 5 64),
  (64, oLdA 0 65),
  (65, oI (4) 66),
  (66, oNewR 1 59 688 69),
  (69, oPutF 5 6 72),
  (72, oI (0) 73),
  (73, oStI 1 74),
  (74, oLdI 1 75),
  (75, oLdA 0 76),
  (76, oGet 5 6 79),
  (79, oLen 80),
  (80, oCmGe 102 83),
  (83, oLdA 0 84),
  (84, oGet 5 6 87),
  (87, oLdI 1 88),
  (88, oNew 2 4 [some none, none, none, none] 59 688 91),
  (91, oDup 92),
  (92, oCallI 31 0 1 24 59 688 95),
  (95, oAASt 96),
  (96, oInc 1 (1) 99),
  (99, oGoto 74),
  (102, oRetV)]
set_option maxRecDepth 100000 in
theorem ck_X5_init {ini : Bool} (hi : ini = true) : ∀ x ∈ cd_X5_init, OpOK qMT cX5_init RX5 2 none ini 59 688 none x.1 x.2 :=
  kc (ok_aload_n dX5_init_0 rfl) (
  kc (ok_objInit dX5_init_1 hw_67 hw_68 hw_69) (
  kc (ok_aload_n dX5_init_4 rfl) (
  kc (ok_new (T := TX4) dX5_init_5 rfl hin_X4 tyX4_ok hw_70 hw_71 hw_53 rfl (by decide +kernel) (by decide)) (
  kc (ok_dup dX5_init_8) (
  kc (ok_callI dX5_init_9 qm_47 rfl rfl hw_72 hw_73 rfl rfl qp_47) (
  kc (ok_putF (T := TX5) (k := 0) dX5_init_12 rfl hin_X5 tyX5_ok nmX5 (by decide) hw_215 rfl rfl hi (tyX5_ok 0 (by decide)) (fun _ => ⟨rfl, rfl⟩)) (
  kc (ok_aload_n dX5_init_15 rfl) (
  kc (ok_new (T := TX4) dX5_init_16 rfl hin_X4 tyX4_ok hw_70 hw_71 hw_53 rfl (by decide +kernel) (by decide)) (
  kc (ok_dup dX5_init_19) (
  kc (ok_callI dX5_init_20 qm_47 rfl rfl hw_72 hw_73 rfl rfl qp_47) (
  kc (ok_putF (T := TX5) (k := 1) dX5_init_23 rfl hin_X5 tyX5_ok nmX5 (by decide) hw_216 rfl rfl hi (tyX5_ok 1 (by decide)) (fun _ => ⟨rfl, rfl⟩)) (
  kc (ok_aload_n dX5_init_26 rfl) (
  kc (ok_iconst dX5_init_27 (by decide)) (
  kc (ok_putZ (T := TX5) (k := 2) dX5_init_28 rfl hin_X5 tyX5_ok nmX5 (by decide) hw_217 rfl (tyX5_ok 2 (by decide))) (
  kc (ok_aload_n dX5_init_31 rfl) (
  kc (ok_new (T := TX0) dX5_init_32 rfl hin_X0 tyX0_ok hw_140 hw_77 hw_54 rfl (by decide +kernel) (by decide)) (
  kc (ok_dup dX5_init_35) (
  kc (ok_callIN dX5_init_36 qm_0 rfl rfl (List.mem_of_getElem? (i := 1) rfl) hw_79 rfl rfl qp_0) (
  kc (ok_putF (T := TX5) (k := 3) dX5_init_39 rfl hin_X5 tyX5_ok nmX5 (by decide) hw_218 rfl rfl hi (tyX5_ok 3 (by decide)) (fun _ => ⟨rfl, rfl⟩)) (
  kc (ok_aload_n dX5_init_42 rfl) (
  kc (ok_new (T := TX1) dX5_init_43 rfl hin_X1 tyX1_ok hw_142 hw_143 hw_55 rfl (by decide +kernel) (by decide)) (
  kc (ok_dup dX5_init_46) (
  kc (ok_callI dX5_init_47 qm_21 rfl rfl hw_144 hw_145 rfl rfl qp_21) (
  kc (ok_putF (T := TX5) (k := 4) dX5_init_50 rfl hin_X5 tyX5_ok nmX5 (by decide) hw_219 rfl rfl hi (tyX5_ok 4 (by decide)) (fun _ => ⟨rfl, rfl⟩)) (
  kc (ok_aload_n dX5_init_53 rfl) (
  kc (ok_new (T := TX3) dX5_init_54 rfl hin_X3 tyX3_ok hw_170 hw_171 hw_56 rfl (by decide +kernel) (by decide)) (
  kc (ok_dup dX5_init_57) (
  kc (ok_callIN dX5_init_58 qm_36 rfl rfl (List.mem_of_getElem? (i := 3) rfl) hw_173 rfl rfl qp_36) (
  kc (ok_putF (T := TX5) (k := 5) dX5_init_61 rfl hin_X5 tyX5_ok nmX5 (by decide) hw_220 rfl rfl hi (tyX5_ok 5 (by decide)) (fun _ => ⟨rfl, rfl⟩)) (
  kc (ok_aload_n dX5_init_64 rfl) (
  kc (ok_iconst dX5_init_65 (by decide)) (
  kc (ok_newR dX5_init_66 hw_191 (Or.inr ⟨rfl, rfl⟩)) (
  kc (ok_putF (T := TX5) (k := 6) dX5_init_69 rfl hin_X5 tyX5_ok nmX5 (by decide) hw_221 rfl rfl hi (tyX5_ok 6 (by decide)) (fun _ => ⟨rfl, rfl⟩)) (
  kc (ok_iconst dX5_init_72 (by decide)) (
  kc (ok_istore_n dX5_init_73 rfl) (
  kc (ok_iload_n dX5_init_74 rfl) (
  kc (ok_aload_n dX5_init_75 rfl) (
  kc (ok_get (T := TX5) (k := 6) dX5_init_76 rfl hin_X5 (by decide) hw_221) (
  kc (ok_alen dX5_init_79) (
  kc (ok_cm_ge dX5_init_80 (by decide)) (
  kc (ok_aload_n dX5_init_83 rfl) (
  kc (ok_get (T := TX5) (k := 6) dX5_init_84 rfl hin_X5 (by decide) hw_221) (
  kc (ok_iload_n dX5_init_87 rfl) (
  kc (ok_new (T := TX2) dX5_init_88 rfl hin_X2 tyX2_ok hw_191 hw_193 hw_57 rfl (by decide +kernel) (by decide)) (
  kc (ok_dup dX5_init_91) (
  kc (ok_callIN dX5_init_92 qm_31 rfl rfl (List.mem_of_getElem? (i := 4) rfl) hw_195 rfl rfl qp_31) (
  kc (ok_aastore dX5_init_95) (
  kc (ok_iinc dX5_init_96 (by decide)) (
  kc (ok_goto dX5_init_99 (by decide)) (
  kc (ok_retV dX5_init_102 rfl) (
  kn)))))))))))))))))))))))))))))))))))))))))))))))))))
def cd_X5_person : List (Nat × qOp) := [
  (0, oLdI 1 1),
  (1, oCallS 92 1 0 0 0 0 4),
  (4, oIfNe 9 7),
  (7, oI (-1) 8),
  (8, oRetI),
  (9, oLdI 2 10),
  (10, oIfNe 36 13),
  (13, oLdI 3 14),
  (14, oI (999) 17),
  (17, oCallS 91 2 0 0 0 0 20),
  (20, oIfEq 36 23),
  (23, oLdA 0 24),
  (24, oGet 5 0 27),
  (27, oGet 4 1 30),
  (30, oLdI 1 31),
  (31, oLdI 3 32),
  (32, oCallS 97 3 0 0 0 0 35),
  (35, oRetI),
  (36, oLdI 2 37),
  (37, oI (1) 38),
  (38, oCmNe 63 41),
  (41, oLdI 3 42),
  (42, oI (99) 44),
  (44, oCallS 91 2 0 0 0 0 47),
  (47, oIfEq 63 50),
  (50, oLdA 0 51),
  (51, oGet 5 0 54),
  (54, oGet 4 2 57),
  (57, oLdI 1 58),
  (58, oLdI 3 59),
  (59, oCallS 97 3 0 0 0 0 62),
  (62, oRetI),
  (63, oI (-1) 64),
  (64, oRetI)]
set_option maxRecDepth 100000 in
theorem ck_X5_person {ini : Bool} : ∀ x ∈ cd_X5_person, OpOK qMT cX5_person RX5 4 (some .int) ini 0 0 none x.1 x.2 :=
  kc (ok_iload_n dX5_person_0 rfl) (
  kc (ok_callS dX5_person_1 qm_92 rfl rfl hw_241 hw_242 qp_92) (
  kc (ok_if_ne dX5_person_4 (by decide)) (
  kc (ok_iconst dX5_person_7 (by decide)) (
  kc (ok_retI dX5_person_8 rfl) (
  kc (ok_iload_n dX5_person_9 rfl) (
  kc (ok_if_ne dX5_person_10 (by decide)) (
  kc (ok_iload_n dX5_person_13 rfl) (
  kc (ok_sipush dX5_person_14 (by decide)) (
  kc (ok_callS dX5_person_17 qm_91 rfl rfl hw_244 hw_245 qp_91) (
  kc (ok_if_eq dX5_person_20 (by decide)) (
  kc (ok_aload_n dX5_person_23 rfl) (
  kc (ok_get (T := TX5) (k := 0) dX5_person_24 rfl hin_X5 (by decide) hw_215) (
  kc (ok_get (T := TX4) (k := 1) dX5_person_27 rfl hin_X4 (by decide) hw_122) (
  kc (ok_iload_n dX5_person_30 rfl) (
  kc (ok_iload_n dX5_person_31 rfl) (
  kc (ok_callS dX5_person_32 qm_97 rfl rfl hw_247 hw_248 qp_97) (
  kc (ok_retI dX5_person_35 rfl) (
  kc (ok_iload_n dX5_person_36 rfl) (
  kc (ok_iconst dX5_person_37 (by decide)) (
  kc (ok_cm_ne dX5_person_38 (by decide)) (
  kc (ok_iload_n dX5_person_41 rfl) (
  kc (ok_bipush dX5_person_42 (by decide)) (
  kc (ok_callS dX5_person_44 qm_91 rfl rfl hw_244 hw_245 qp_91) (
  kc (ok_if_eq dX5_person_47 (by decide)) (
  kc (ok_aload_n dX5_person_50 rfl) (
  kc (ok_get (T := TX5) (k := 0) dX5_person_51 rfl hin_X5 (by decide) hw_215) (
  kc (ok_get (T := TX4) (k := 2) dX5_person_54 rfl hin_X4 (by decide) hw_124) (
  kc (ok_iload_n dX5_person_57 rfl) (
  kc (ok_iload_n dX5_person_58 rfl) (
  kc (ok_callS dX5_person_59 qm_97 rfl rfl hw_247 hw_248 qp_97) (
  kc (ok_retI dX5_person_62 rfl) (
  kc (ok_iconst dX5_person_63 (by decide)) (
  kc (ok_retI dX5_person_64 rfl) (
  kn))))))))))))))))))))))))))))))))))
def cd_X5_rule : List (Nat × qOp) := [
  (0, oLdI 1 1),
  (1, oI (1) 2),
  (2, oCallS 91 2 0 0 0 0 5),
  (5, oIfEq 16 8),
  (8, oLdI 2 9),
  (9, oI (1) 10),
  (10, oCallS 91 2 0 0 0 0 13),
  (13, oIfNe 18 16),
  (16, oI (-1) 17),
  (17, oRetI),
  (18, oLdA 0 19),
  (19, oGet 5 0 22),
  (22, oGet 4 0 25),
  (25, oGet 0 0 28),
  (28, oLdI 1 29),
  (29, oLdI 2 30),
  (30, oCallS 97 3 0 0 0 0 33),
  (33, oStI 3 34),
  (34, oLdA 0 35),
  (35, oGet 5 0 38),
  (38, oGet 4 0 41),
  (41, oCallV 5 0 0 0 0 0 0 44),
  (44, oPop 45),
  (45, oLdI 3 46),
  (46, oRetI)]
set_option maxRecDepth 100000 in
theorem ck_X5_rule {ini : Bool} : ∀ x ∈ cd_X5_rule, OpOK qMT cX5_rule RX5 4 (some .int) ini 0 0 none x.1 x.2 :=
  kc (ok_iload_n dX5_rule_0 rfl) (
  kc (ok_iconst dX5_rule_1 (by decide)) (
  kc (ok_callS dX5_rule_2 qm_91 rfl rfl hw_244 hw_245 qp_91) (
  kc (ok_if_eq dX5_rule_5 (by decide)) (
  kc (ok_iload_n dX5_rule_8 rfl) (
  kc (ok_iconst dX5_rule_9 (by decide)) (
  kc (ok_callS dX5_rule_10 qm_91 rfl rfl hw_244 hw_245 qp_91) (
  kc (ok_if_ne dX5_rule_13 (by decide)) (
  kc (ok_iconst dX5_rule_16 (by decide)) (
  kc (ok_retI dX5_rule_17 rfl) (
  kc (ok_aload_n dX5_rule_18 rfl) (
  kc (ok_get (T := TX5) (k := 0) dX5_rule_19 rfl hin_X5 (by decide) hw_215) (
  kc (ok_get (T := TX4) (k := 0) dX5_rule_22 rfl hin_X4 (by decide) hw_120) (
  kc (ok_get (T := TX0) (k := 0) dX5_rule_25 rfl hin_X0 (by decide) hw_83) (
  kc (ok_iload_n dX5_rule_28 rfl) (
  kc (ok_iload_n dX5_rule_29 rfl) (
  kc (ok_callS dX5_rule_30 qm_97 rfl rfl hw_247 hw_248 qp_97) (
  kc (ok_istore_n dX5_rule_33 rfl) (
  kc (ok_aload_n dX5_rule_34 rfl) (
  kc (ok_get (T := TX5) (k := 0) dX5_rule_35 rfl hin_X5 (by decide) hw_215) (
  kc (ok_get (T := TX4) (k := 0) dX5_rule_38 rfl hin_X4 (by decide) hw_120) (
  kc (ok_callV (T := TX0) dX5_rule_41 qm_5 rfl rfl rfl hw_254 hw_255 hw_256 qp_5) (
  kc (ok_pop dX5_rule_44) (
  kc (ok_iload_n dX5_rule_45 rfl) (
  kc (ok_retI dX5_rule_46 rfl) (
  kn)))))))))))))))))))))))))
def cd_X5_thing : List (Nat × qOp) := [
  (0, oLdI 1 1),
  (1, oI (6) 3),
  (3, oCallS 91 2 0 0 0 0 6),
  (6, oIfNe 11 9),
  (9, oI (-1) 10),
  (10, oRetI),
  (11, oLdA 0 12),
  (12, oGet 5 0 15),
  (15, oGet 4 0 18),
  (18, oGet 0 4 21),
  (21, oI (8) 23),
  (23, oCmLt 29 26),
  (26, oI (-3) 28),
  (28, oRetI),
  (29, oLdA 0 30),
  (30, oGet 5 0 33),
  (33, oLdI 1 34),
  (34, oCallV 49 4 1 0 0 0 0 37),
  (37, oRetI)]
set_option maxRecDepth 100000 in
theorem ck_X5_thing {ini : Bool} : ∀ x ∈ cd_X5_thing, OpOK qMT cX5_thing RX5 2 (some .int) ini 0 0 none x.1 x.2 :=
  kc (ok_iload_n dX5_thing_0 rfl) (
  kc (ok_bipush dX5_thing_1 (by decide)) (
  kc (ok_callS dX5_thing_3 qm_91 rfl rfl hw_244 hw_245 qp_91) (
  kc (ok_if_ne dX5_thing_6 (by decide)) (
  kc (ok_iconst dX5_thing_9 (by decide)) (
  kc (ok_retI dX5_thing_10 rfl) (
  kc (ok_aload_n dX5_thing_11 rfl) (
  kc (ok_get (T := TX5) (k := 0) dX5_thing_12 rfl hin_X5 (by decide) hw_215) (
  kc (ok_get (T := TX4) (k := 0) dX5_thing_15 rfl hin_X4 (by decide) hw_120) (
  kc (ok_get (T := TX0) (k := 4) dX5_thing_18 rfl hin_X0 (by decide) hw_94) (
  kc (ok_bipush dX5_thing_21 (by decide)) (
  kc (ok_cm_lt dX5_thing_23 (by decide)) (
  kc (ok_bipush dX5_thing_26 (by decide)) (
  kc (ok_retI dX5_thing_28 rfl) (
  kc (ok_aload_n dX5_thing_29 rfl) (
  kc (ok_get (T := TX5) (k := 0) dX5_thing_30 rfl hin_X5 (by decide) hw_215) (
  kc (ok_iload_n dX5_thing_33 rfl) (
  kc (ok_callV (T := TX4) dX5_thing_34 qm_49 rfl rfl rfl hw_270 hw_271 hw_272 qp_49) (
  kc (ok_retI dX5_thing_37 rfl) (
  kn)))))))))))))))))))
def cd_X5_worth : List (Nat × qOp) := [
  (0, oLdA 0 1),
  (1, oLdI 1 2),
  (2, oCallV 95 5 1 0 0 0 0 5),
  (5, oIfEq 24 8),
  (8, oLdI 2 9),
  (9, oCallS 92 1 0 0 0 0 12),
  (12, oIfEq 24 15),
  (15, oLdI 3 16),
  (16, oI (99) 18),
  (18, oCallS 91 2 0 0 0 0 21),
  (21, oIfNe 26 24),
  (24, oI (-1) 25),
  (25, oRetI),
  (26, oLdA 0 27),
  (27, oGet 5 0 30),
  (30, oGet 4 3 33),
  (33, oLdI 1 34),
  (34, oI (6) 36),
  (36, oBin (fun x y => x * y) 37),
  (37, oLdI 2 38),
  (38, oBin (fun x y => x + y) 39),
  (39, oLdI 3 40),
  (40, oCallS 97 3 0 0 0 0 43),
  (43, oRetI)]
set_option maxRecDepth 100000 in
theorem ck_X5_worth {ini : Bool} : ∀ x ∈ cd_X5_worth, OpOK qMT cX5_worth RX5 4 (some .int) ini 0 0 none x.1 x.2 :=
  kc (ok_aload_n dX5_worth_0 rfl) (
  kc (ok_iload_n dX5_worth_1 rfl) (
  kc (ok_callV (T := TX5) dX5_worth_2 qm_95 rfl rfl rfl hw_282 hw_284 hw_0 qp_95) (
  kc (ok_if_eq dX5_worth_5 (by decide)) (
  kc (ok_iload_n dX5_worth_8 rfl) (
  kc (ok_callS dX5_worth_9 qm_92 rfl rfl hw_241 hw_242 qp_92) (
  kc (ok_if_eq dX5_worth_12 (by decide)) (
  kc (ok_iload_n dX5_worth_15 rfl) (
  kc (ok_bipush dX5_worth_16 (by decide)) (
  kc (ok_callS dX5_worth_18 qm_91 rfl rfl hw_244 hw_245 qp_91) (
  kc (ok_if_ne dX5_worth_21 (by decide)) (
  kc (ok_iconst dX5_worth_24 (by decide)) (
  kc (ok_retI dX5_worth_25 rfl) (
  kc (ok_aload_n dX5_worth_26 rfl) (
  kc (ok_get (T := TX5) (k := 0) dX5_worth_27 rfl hin_X5 (by decide) hw_215) (
  kc (ok_get (T := TX4) (k := 3) dX5_worth_30 rfl hin_X4 (by decide) hw_126) (
  kc (ok_iload_n dX5_worth_33 rfl) (
  kc (ok_bipush dX5_worth_34 (by decide)) (
  kc (ok_imul dX5_worth_36) (
  kc (ok_iload_n dX5_worth_37 rfl) (
  kc (ok_iadd dX5_worth_38) (
  kc (ok_iload_n dX5_worth_39 rfl) (
  kc (ok_callS dX5_worth_40 qm_97 rfl rfl hw_247 hw_248 qp_97) (
  kc (ok_retI dX5_worth_43 rfl) (
  kn))))))))))))))))))))))))
def cd_X5_suit : List (Nat × qOp) := [
  (0, oLdA 0 1),
  (1, oLdI 1 2),
  (2, oCallV 96 5 1 0 0 0 0 5),
  (5, oIfEq 21 8),
  (8, oLdA 0 9),
  (9, oLdI 2 10),
  (10, oCallV 96 5 1 0 0 0 0 13),
  (13, oIfEq 21 16),
  (16, oLdI 1 17),
  (17, oLdI 2 18),
  (18, oCmNe 23 21),
  (21, oI (-1) 22),
  (22, oRetI),
  (23, oLdA 0 24),
  (24, oGet 5 0 27),
  (27, oGet 4 0 30),
  (30, oGet 0 5 33),
  (33, oI (12) 35),
  (35, oCmLt 41 38),
  (38, oI (-3) 40),
  (40, oRetI),
  (41, oLdA 0 42),
  (42, oGet 5 0 45),
  (45, oGet 4 0 48),
  (48, oLdI 1 49),
  (49, oLdI 2 50),
  (50, oCallV 4 0 2 0 0 0 0 53),
  (53, oRetI)]
set_option maxRecDepth 100000 in
theorem ck_X5_suit {ini : Bool} : ∀ x ∈ cd_X5_suit, OpOK qMT cX5_suit RX5 3 (some .int) ini 0 0 none x.1 x.2 :=
  kc (ok_aload_n dX5_suit_0 rfl) (
  kc (ok_iload_n dX5_suit_1 rfl) (
  kc (ok_callV (T := TX5) dX5_suit_2 qm_96 rfl rfl rfl hw_290 hw_292 hw_1 qp_96) (
  kc (ok_if_eq dX5_suit_5 (by decide)) (
  kc (ok_aload_n dX5_suit_8 rfl) (
  kc (ok_iload_n dX5_suit_9 rfl) (
  kc (ok_callV (T := TX5) dX5_suit_10 qm_96 rfl rfl rfl hw_290 hw_292 hw_1 qp_96) (
  kc (ok_if_eq dX5_suit_13 (by decide)) (
  kc (ok_iload_n dX5_suit_16 rfl) (
  kc (ok_iload_n dX5_suit_17 rfl) (
  kc (ok_cm_ne dX5_suit_18 (by decide)) (
  kc (ok_iconst dX5_suit_21 (by decide)) (
  kc (ok_retI dX5_suit_22 rfl) (
  kc (ok_aload_n dX5_suit_23 rfl) (
  kc (ok_get (T := TX5) (k := 0) dX5_suit_24 rfl hin_X5 (by decide) hw_215) (
  kc (ok_get (T := TX4) (k := 0) dX5_suit_27 rfl hin_X4 (by decide) hw_120) (
  kc (ok_get (T := TX0) (k := 5) dX5_suit_30 rfl hin_X0 (by decide) hw_98) (
  kc (ok_bipush dX5_suit_33 (by decide)) (
  kc (ok_cm_lt dX5_suit_35 (by decide)) (
  kc (ok_bipush dX5_suit_38 (by decide)) (
  kc (ok_retI dX5_suit_40 rfl) (
  kc (ok_aload_n dX5_suit_41 rfl) (
  kc (ok_get (T := TX5) (k := 0) dX5_suit_42 rfl hin_X5 (by decide) hw_215) (
  kc (ok_get (T := TX4) (k := 0) dX5_suit_45 rfl hin_X4 (by decide) hw_120) (
  kc (ok_iload_n dX5_suit_48 rfl) (
  kc (ok_iload_n dX5_suit_49 rfl) (
  kc (ok_callV (T := TX0) dX5_suit_50 qm_4 rfl rfl rfl hw_294 hw_295 hw_296 qp_4) (
  kc (ok_retI dX5_suit_53 rfl) (
  kn))))))))))))))))))))))))))))
def cd_X5_told : List (Nat × qOp) := [
  (0, oLdA 0 1),
  (1, oGet 5 0 4),
  (4, oGet 4 0 7),
  (7, oStA 3 8),
  (8, oLdI 1 9),
  (9, oIfLt 20 12),
  (12, oLdI 1 13),
  (13, oLdA 3 14),
  (14, oGet 0 5 17),
  (17, oCmLt 22 20),
  (20, oI (-1) 21),
  (21, oRetI),
  (22, oLdI 2 23),
  (23, oSw (0) [56, 63, 70, 81, 92] 106),
  (56, oLdA 3 57),
  (57, oGet 0 2 60),
  (60, oLdI 1 61),
  (61, oALd 62),
  (62, oRetI),
  (63, oLdA 3 64),
  (64, oGet 0 3 67),
  (67, oLdI 1 68),
  (68, oALd 69),
  (69, oRetI),
  (70, oLdA 3 71),
  (71, oLdA 3 72),
  (72, oGet 0 2 75),
  (75, oLdI 1 76),
  (76, oALd 77),
  (77, oCallV 3 0 1 0 0 0 0 80),
  (80, oRetI),
  (81, oLdA 3 82),
  (82, oLdA 3 83),
  (83, oGet 0 3 86),
  (86, oLdI 1 87),
  (87, oALd 88),
  (88, oCallV 3 0 1 0 0 0 0 91),
  (91, oRetI),
  (92, oLdA 3 93),
  (93, oLdI 1 94),
  (94, oCallV 2 0 1 0 0 0 0 97),
  (97, oIfEq 104 100),
  (100, oI (1) 101),
  (101, oGoto 105),
  (104, oI (0) 105),
  (105, oRetI),
  (106, oI (-1) 107),
  (107, oRetI)]
set_option maxRecDepth 100000 in
theorem ck_X5_told {ini : Bool} : ∀ x ∈ cd_X5_told, OpOK qMT cX5_told RX5 4 (some .int) ini 0 0 none x.1 x.2 :=
  kc (ok_aload_n dX5_told_0 rfl) (
  kc (ok_get (T := TX5) (k := 0) dX5_told_1 rfl hin_X5 (by decide) hw_215) (
  kc (ok_get (T := TX4) (k := 0) dX5_told_4 rfl hin_X4 (by decide) hw_120) (
  kc (ok_astore_n dX5_told_7 rfl) (
  kc (ok_iload_n dX5_told_8 rfl) (
  kc (ok_if_lt dX5_told_9 (by decide)) (
  kc (ok_iload_n dX5_told_12 rfl) (
  kc (ok_aload_n dX5_told_13 rfl) (
  kc (ok_get (T := TX0) (k := 5) dX5_told_14 rfl hin_X0 (by decide) hw_98) (
  kc (ok_cm_lt dX5_told_17 (by decide)) (
  kc (ok_iconst dX5_told_20 (by decide)) (
  kc (ok_retI dX5_told_21 rfl) (
  kc (ok_iload_n dX5_told_22 rfl) (
  kc (ok_sw dX5_told_23 (by decide) (by decide) (by decide)) (
  kc (ok_aload_n dX5_told_56 rfl) (
  kc (ok_get (T := TX0) (k := 2) dX5_told_57 rfl hin_X0 (by decide) hw_89) (
  kc (ok_iload_n dX5_told_60 rfl) (
  kc (ok_iaload dX5_told_61) (
  kc (ok_retI dX5_told_62 rfl) (
  kc (ok_aload_n dX5_told_63 rfl) (
  kc (ok_get (T := TX0) (k := 3) dX5_told_64 rfl hin_X0 (by decide) hw_91) (
  kc (ok_iload_n dX5_told_67 rfl) (
  kc (ok_iaload dX5_told_68) (
  kc (ok_retI dX5_told_69 rfl) (
  kc (ok_aload_n dX5_told_70 rfl) (
  kc (ok_aload_n dX5_told_71 rfl) (
  kc (ok_get (T := TX0) (k := 2) dX5_told_72 rfl hin_X0 (by decide) hw_89) (
  kc (ok_iload_n dX5_told_75 rfl) (
  kc (ok_iaload dX5_told_76) (
  kc (ok_callV (T := TX0) dX5_told_77 qm_3 rfl rfl rfl hw_303 hw_259 hw_260 qp_3) (
  kc (ok_retI dX5_told_80 rfl) (
  kc (ok_aload_n dX5_told_81 rfl) (
  kc (ok_aload_n dX5_told_82 rfl) (
  kc (ok_get (T := TX0) (k := 3) dX5_told_83 rfl hin_X0 (by decide) hw_91) (
  kc (ok_iload_n dX5_told_86 rfl) (
  kc (ok_iaload dX5_told_87) (
  kc (ok_callV (T := TX0) dX5_told_88 qm_3 rfl rfl rfl hw_303 hw_259 hw_260 qp_3) (
  kc (ok_retI dX5_told_91 rfl) (
  kc (ok_aload_n dX5_told_92 rfl) (
  kc (ok_iload_n dX5_told_93 rfl) (
  kc (ok_callV (T := TX0) dX5_told_94 qm_2 rfl rfl rfl hw_304 hw_263 hw_264 qp_2) (
  kc (ok_if_eq dX5_told_97 (by decide)) (
  kc (ok_iconst dX5_told_100 (by decide)) (
  kc (ok_goto dX5_told_101 (by decide)) (
  kc (ok_iconst dX5_told_104 (by decide)) (
  kc (ok_retI dX5_told_105 rfl) (
  kc (ok_iconst dX5_told_106 (by decide)) (
  kc (ok_retI dX5_told_107 rfl) (
  kn))))))))))))))))))))))))))))))))))))))))))))))))
def cd_X5_hand : List (Nat × qOp) := [
  (0, oLdA 0 1),
  (1, oLdI 1 2),
  (2, oCallV 95 5 1 0 0 0 0 5),
  (5, oIfEq 23 8),
  (8, oLdA 0 9),
  (9, oGet 5 0 12),
  (12, oGet 4 0 15),
  (15, oGet 0 1 18),
  (18, oLdI 1 19),
  (19, oALd 20),
  (20, oGoto 24),
  (23, oI (-1) 24),
  (24, oRetI)]
set_option maxRecDepth 100000 in
theorem ck_X5_hand {ini : Bool} : ∀ x ∈ cd_X5_hand, OpOK qMT cX5_hand RX5 2 (some .int) ini 0 0 none x.1 x.2 :=
  kc (ok_aload_n dX5_hand_0 rfl) (
  kc (ok_iload_n dX5_hand_1 rfl) (
  kc (ok_callV (T := TX5) dX5_hand_2 qm_95 rfl rfl rfl hw_282 hw_284 hw_0 qp_95) (
  kc (ok_if_eq dX5_hand_5 (by decide)) (
  kc (ok_aload_n dX5_hand_8 rfl) (
  kc (ok_get (T := TX5) (k := 0) dX5_hand_9 rfl hin_X5 (by decide) hw_215) (
  kc (ok_get (T := TX4) (k := 0) dX5_hand_12 rfl hin_X4 (by decide) hw_120) (
  kc (ok_get (T := TX0) (k := 1) dX5_hand_15 rfl hin_X0 (by decide) hw_87) (
  kc (ok_iload_n dX5_hand_18 rfl) (
  kc (ok_iaload dX5_hand_19) (
  kc (ok_goto dX5_hand_20 (by decide)) (
  kc (ok_iconst dX5_hand_23 (by decide)) (
  kc (ok_retI dX5_hand_24 rfl) (
  kn)))))))))))))
def cd_X5_purse : List (Nat × qOp) := [
  (0, oLdI 1 1),
  (1, oCallS 92 1 0 0 0 0 4),
  (4, oIfEq 19 7),
  (7, oLdA 0 8),
  (8, oGet 5 0 11),
  (11, oGet 4 1 14),
  (14, oLdI 1 15),
  (15, oALd 16),
  (16, oGoto 20),
  (19, oI (-1) 20),
  (20, oRetI)]
set_option maxRecDepth 100000 in
theorem ck_X5_purse {ini : Bool} : ∀ x ∈ cd_X5_purse, OpOK qMT cX5_purse RX5 2 (some .int) ini 0 0 none x.1 x.2 :=
  kc (ok_iload_n dX5_purse_0 rfl) (
  kc (ok_callS dX5_purse_1 qm_92 rfl rfl hw_241 hw_242 qp_92) (
  kc (ok_if_eq dX5_purse_4 (by decide)) (
  kc (ok_aload_n dX5_purse_7 rfl) (
  kc (ok_get (T := TX5) (k := 0) dX5_purse_8 rfl hin_X5 (by decide) hw_215) (
  kc (ok_get (T := TX4) (k := 1) dX5_purse_11 rfl hin_X4 (by decide) hw_122) (
  kc (ok_iload_n dX5_purse_14 rfl) (
  kc (ok_iaload dX5_purse_15) (
  kc (ok_goto dX5_purse_16 (by decide)) (
  kc (ok_iconst dX5_purse_19 (by decide)) (
  kc (ok_retI dX5_purse_20 rfl) (
  kn)))))))))))
def cd_X5_value : List (Nat × qOp) := [
  (0, oLdI 1 1),
  (1, oCallS 92 1 0 0 0 0 4),
  (4, oIfEq 25 7),
  (7, oLdA 0 8),
  (8, oGet 5 0 11),
  (11, oLdI 1 12),
  (12, oLdA 0 13),
  (13, oGet 5 0 16),
  (16, oGet 4 0 19),
  (19, oCallV 53 4 2 0 0 0 0 22),
  (22, oGoto 27),
  (25, oI (-100001) 27),
  (27, oRetI)]
set_option maxRecDepth 100000 in
theorem ck_X5_value {ini : Bool} : ∀ x ∈ cd_X5_value, OpOK qMT cX5_value RX5 2 (some .int) ini 0 0 none x.1 x.2 :=
  kc (ok_iload_n dX5_value_0 rfl) (
  kc (ok_callS dX5_value_1 qm_92 rfl rfl hw_241 hw_242 qp_92) (
  kc (ok_if_eq dX5_value_4 (by decide)) (
  kc (ok_aload_n dX5_value_7 rfl) (
  kc (ok_get (T := TX5) (k := 0) dX5_value_8 rfl hin_X5 (by decide) hw_215) (
  kc (ok_iload_n dX5_value_11 rfl) (
  kc (ok_aload_n dX5_value_12 rfl) (
  kc (ok_get (T := TX5) (k := 0) dX5_value_13 rfl hin_X5 (by decide) hw_215) (
  kc (ok_get (T := TX4) (k := 0) dX5_value_16 rfl hin_X4 (by decide) hw_120) (
  kc (ok_callV (T := TX4) dX5_value_19 qm_53 rfl rfl rfl hw_317 hw_318 hw_319 qp_53) (
  kc (ok_goto dX5_value_22 (by decide)) (
  kc (ok_ldc dX5_value_25 hw_325) (
  kc (ok_retI dX5_value_27 rfl) (
  kn)))))))))))))
def cd_X5_type : List (Nat × qOp) := [
  (0, oLdI 3 1),
  (1, oI (1) 2),
  (2, oCmLt 19 5),
  (5, oLdI 3 6),
  (6, oI (8) 8),
  (8, oCmGt 19 11),
  (11, oLdL 1 12),
  (12, oLdI 3 13),
  (13, oCallS 38 2 0 0 0 0 16),
  (16, oIfNe 21 19),
  (19, oI (-1) 20),
  (20, oRetI),
  (21, oLdA 0 22),
  (22, oGet 5 5 25),
  (25, oGet 3 2 28),
  (28, oLdI 3 29),
  (29, oBin (fun x y => x + y) 30),
  (30, oI (80) 32),
  (32, oCmLe 38 35),
  (35, oI (-3) 37),
  (37, oRetI),
  (38, oLdA 0 39),
  (39, oGet 5 5 42),
  (42, oLdL 1 43),
  (43, oLdI 3 44),
  (44, oCallV 39 3 2 0 0 0 0 47),
  (47, oLdA 0 48),
  (48, oGet 5 5 51),
  (51, oGet 3 2 54),
  (54, oRetI)]
set_option maxRecDepth 100000 in
theorem ck_X5_type {ini : Bool} : ∀ x ∈ cd_X5_type, OpOK qMT cX5_type RX5 4 (some .int) ini 0 0 none x.1 x.2 :=
  kc (ok_iload_n dX5_type_0 rfl) (
  kc (ok_iconst dX5_type_1 (by decide)) (
  kc (ok_cm_lt dX5_type_2 (by decide)) (
  kc (ok_iload_n dX5_type_5 rfl) (
  kc (ok_bipush dX5_type_6 (by decide)) (
  kc (ok_cm_gt dX5_type_8 (by decide)) (
  kc (ok_lload_n dX5_type_11 rfl) (
  kc (ok_iload_n dX5_type_12 rfl) (
  kc (ok_callS dX5_type_13 qm_38 rfl rfl hw_330 hw_331 qp_38) (
  kc (ok_if_ne dX5_type_16 (by decide)) (
  kc (ok_iconst dX5_type_19 (by decide)) (
  kc (ok_retI dX5_type_20 rfl) (
  kc (ok_aload_n dX5_type_21 rfl) (
  kc (ok_get (T := TX5) (k := 5) dX5_type_22 rfl hin_X5 (by decide) hw_220) (
  kc (ok_get (T := TX3) (k := 2) dX5_type_25 rfl hin_X3 (by decide) hw_179) (
  kc (ok_iload_n dX5_type_28 rfl) (
  kc (ok_iadd dX5_type_29) (
  kc (ok_bipush dX5_type_30 (by decide)) (
  kc (ok_cm_le dX5_type_32 (by decide)) (
  kc (ok_bipush dX5_type_35 (by decide)) (
  kc (ok_retI dX5_type_37 rfl) (
  kc (ok_aload_n dX5_type_38 rfl) (
  kc (ok_get (T := TX5) (k := 5) dX5_type_39 rfl hin_X5 (by decide) hw_220) (
  kc (ok_lload_n dX5_type_42 rfl) (
  kc (ok_iload_n dX5_type_43 rfl) (
  kc (ok_callV (T := TX3) dX5_type_44 qm_39 rfl rfl rfl hw_336 hw_337 hw_338 qp_39) (
  kc (ok_aload_n dX5_type_47 rfl) (
  kc (ok_get (T := TX5) (k := 5) dX5_type_48 rfl hin_X5 (by decide) hw_220) (
  kc (ok_get (T := TX3) (k := 2) dX5_type_51 rfl hin_X3 (by decide) hw_179) (
  kc (ok_retI dX5_type_54 rfl) (
  kn))))))))))))))))))))))))))))))
def cd_X5_village : List (Nat × qOp) := [
  (0, oLdA 0 1),
  (1, oGet 5 5 4),
  (4, oCallV 42 3 0 0 0 0 0 7),
  (7, oStI 1 8),
  (8, oLdA 0 9),
  (9, oGet 5 5 12),
  (12, oI (0) 13),
  (13, oPutI 3 2 16),
  (16, oLdI 1 17),
  (17, oIfLe 35 20),
  (20, oLdA 0 21),
  (21, oGet 5 0 24),
  (24, oLdA 0 25),
  (25, oGet 5 5 28),
  (28, oGet 3 3 31),
  (31, oLdI 1 32),
  (32, oCallV 50 4 2 0 0 0 0 35),
  (35, oLdI 1 36),
  (36, oRetI)]
set_option maxRecDepth 100000 in
theorem ck_X5_village {ini : Bool} : ∀ x ∈ cd_X5_village, OpOK qMT cX5_village RX5 2 (some .int) ini 0 0 none x.1 x.2 :=
  kc (ok_aload_n dX5_village_0 rfl) (
  kc (ok_get (T := TX5) (k := 5) dX5_village_1 rfl hin_X5 (by decide) hw_220) (
  kc (ok_callV (T := TX3) dX5_village_4 qm_42 rfl rfl rfl hw_344 hw_345 hw_346 qp_42) (
  kc (ok_istore_n dX5_village_7 rfl) (
  kc (ok_aload_n dX5_village_8 rfl) (
  kc (ok_get (T := TX5) (k := 5) dX5_village_9 rfl hin_X5 (by decide) hw_220) (
  kc (ok_iconst dX5_village_12 (by decide)) (
  kc (ok_putI (T := TX3) (k := 2) dX5_village_13 rfl hin_X3 tyX3_ok nmX3 (by decide) hw_179 rfl (tyX3_ok 2 (by decide))) (
  kc (ok_iload_n dX5_village_16 rfl) (
  kc (ok_if_le dX5_village_17 (by decide)) (
  kc (ok_aload_n dX5_village_20 rfl) (
  kc (ok_get (T := TX5) (k := 0) dX5_village_21 rfl hin_X5 (by decide) hw_215) (
  kc (ok_aload_n dX5_village_24 rfl) (
  kc (ok_get (T := TX5) (k := 5) dX5_village_25 rfl hin_X5 (by decide) hw_220) (
  kc (ok_get (T := TX3) (k := 3) dX5_village_28 rfl hin_X3 (by decide) hw_181) (
  kc (ok_iload_n dX5_village_31 rfl) (
  kc (ok_callV (T := TX4) dX5_village_32 qm_50 rfl rfl rfl hw_360 hw_361 hw_362 qp_50) (
  kc (ok_iload_n dX5_village_35 rfl) (
  kc (ok_retI dX5_village_36 rfl) (
  kn)))))))))))))))))))
def cd_X5_suits : List (Nat × qOp) := [
  (0, oLdA 0 1),
  (1, oGet 5 5 4),
  (4, oLdA 0 5),
  (5, oGet 5 0 8),
  (8, oGet 4 0 11),
  (11, oGet 0 4 14),
  (14, oCallV 44 3 1 0 0 0 0 17),
  (17, oStI 1 18),
  (18, oLdA 0 19),
  (19, oGet 5 5 22),
  (22, oI (0) 23),
  (23, oPutI 3 2 26),
  (26, oLdI 1 27),
  (27, oI (12) 29),
  (29, oLdA 0 30),
  (30, oGet 5 0 33),
  (33, oGet 4 0 36),
  (36, oGet 0 5 39),
  (39, oBin (fun x y => x - y) 40),
  (40, oCmLe 46 43),
  (43, oI (-3) 45),
  (45, oRetI),
  (46, oI (0) 47),
  (47, oStI 2 48),
  (48, oLdI 2 49),
  (49, oLdI 1 50),
  (50, oCmGe 94 53),
  (53, oLdA 0 54),
  (54, oGet 5 0 57),
  (57, oGet 4 0 60),
  (60, oLdA 0 61),
  (61, oGet 5 5 64),
  (64, oGet 3 3 67),
  (67, oI (2) 68),
  (68, oLdI 2 69),
  (69, oBin (fun x y => x * y) 70),
  (70, oALd 71),
  (71, oLdA 0 72),
  (72, oGet 5 5 75),
  (75, oGet 3 3 78),
  (78, oI (2) 79),
  (79, oLdI 2 80),
  (80, oBin (fun x y => x * y) 81),
  (81, oI (1) 82),
  (82, oBin (fun x y => x + y) 83),
  (83, oALd 84),
  (84, oCallV 4 0 2 0 0 0 0 87),
  (87, oPop 88),
  (88, oInc 2 (1) 91),
  (91, oGoto 48),
  (94, oLdI 1 95),
  (95, oRetI)]
set_option maxRecDepth 100000 in
theorem ck_X5_suits {ini : Bool} : ∀ x ∈ cd_X5_suits, OpOK qMT cX5_suits RX5 3 (some .int) ini 0 0 none x.1 x.2 :=
  kc (ok_aload_n dX5_suits_0 rfl) (
  kc (ok_get (T := TX5) (k := 5) dX5_suits_1 rfl hin_X5 (by decide) hw_220) (
  kc (ok_aload_n dX5_suits_4 rfl) (
  kc (ok_get (T := TX5) (k := 0) dX5_suits_5 rfl hin_X5 (by decide) hw_215) (
  kc (ok_get (T := TX4) (k := 0) dX5_suits_8 rfl hin_X4 (by decide) hw_120) (
  kc (ok_get (T := TX0) (k := 4) dX5_suits_11 rfl hin_X0 (by decide) hw_94) (
  kc (ok_callV (T := TX3) dX5_suits_14 qm_44 rfl rfl rfl hw_371 hw_372 hw_373 qp_44) (
  kc (ok_istore_n dX5_suits_17 rfl) (
  kc (ok_aload_n dX5_suits_18 rfl) (
  kc (ok_get (T := TX5) (k := 5) dX5_suits_19 rfl hin_X5 (by decide) hw_220) (
  kc (ok_iconst dX5_suits_22 (by decide)) (
  kc (ok_putI (T := TX3) (k := 2) dX5_suits_23 rfl hin_X3 tyX3_ok nmX3 (by decide) hw_179 rfl (tyX3_ok 2 (by decide))) (
  kc (ok_iload_n dX5_suits_26 rfl) (
  kc (ok_bipush dX5_suits_27 (by decide)) (
  kc (ok_aload_n dX5_suits_29 rfl) (
  kc (ok_get (T := TX5) (k := 0) dX5_suits_30 rfl hin_X5 (by decide) hw_215) (
  kc (ok_get (T := TX4) (k := 0) dX5_suits_33 rfl hin_X4 (by decide) hw_120) (
  kc (ok_get (T := TX0) (k := 5) dX5_suits_36 rfl hin_X0 (by decide) hw_98) (
  kc (ok_isub dX5_suits_39) (
  kc (ok_cm_le dX5_suits_40 (by decide)) (
  kc (ok_bipush dX5_suits_43 (by decide)) (
  kc (ok_retI dX5_suits_45 rfl) (
  kc (ok_iconst dX5_suits_46 (by decide)) (
  kc (ok_istore_n dX5_suits_47 rfl) (
  kc (ok_iload_n dX5_suits_48 rfl) (
  kc (ok_iload_n dX5_suits_49 rfl) (
  kc (ok_cm_ge dX5_suits_50 (by decide)) (
  kc (ok_aload_n dX5_suits_53 rfl) (
  kc (ok_get (T := TX5) (k := 0) dX5_suits_54 rfl hin_X5 (by decide) hw_215) (
  kc (ok_get (T := TX4) (k := 0) dX5_suits_57 rfl hin_X4 (by decide) hw_120) (
  kc (ok_aload_n dX5_suits_60 rfl) (
  kc (ok_get (T := TX5) (k := 5) dX5_suits_61 rfl hin_X5 (by decide) hw_220) (
  kc (ok_get (T := TX3) (k := 3) dX5_suits_64 rfl hin_X3 (by decide) hw_181) (
  kc (ok_iconst dX5_suits_67 (by decide)) (
  kc (ok_iload_n dX5_suits_68 rfl) (
  kc (ok_imul dX5_suits_69) (
  kc (ok_iaload dX5_suits_70) (
  kc (ok_aload_n dX5_suits_71 rfl) (
  kc (ok_get (T := TX5) (k := 5) dX5_suits_72 rfl hin_X5 (by decide) hw_220) (
  kc (ok_get (T := TX3) (k := 3) dX5_suits_75 rfl hin_X3 (by decide) hw_181) (
  kc (ok_iconst dX5_suits_78 (by decide)) (
  kc (ok_iload_n dX5_suits_79 rfl) (
  kc (ok_imul dX5_suits_80) (
  kc (ok_iconst dX5_suits_81 (by decide)) (
  kc (ok_iadd dX5_suits_82) (
  kc (ok_iaload dX5_suits_83) (
  kc (ok_callV (T := TX0) dX5_suits_84 qm_4 rfl rfl rfl hw_294 hw_295 hw_296 qp_4) (
  kc (ok_pop dX5_suits_87) (
  kc (ok_iinc dX5_suits_88 (by decide)) (
  kc (ok_goto dX5_suits_91 (by decide)) (
  kc (ok_iload_n dX5_suits_94 rfl) (
  kc (ok_retI dX5_suits_95 rfl) (
  kn))))))))))))))))))))))))))))))))))))))))))))))))))))
def cd_X5_count : List (Nat × qOp) := [
  (0, oLdI 1 1),
  (1, oSw (0) [36, 47, 58, 72, 90] 98),
  (36, oLdA 0 37),
  (37, oGet 5 0 40),
  (40, oGet 4 0 43),
  (43, oGet 0 4 46),
  (46, oRetI),
  (47, oLdA 0 48),
  (48, oGet 5 0 51),
  (51, oGet 4 0 54),
  (54, oGet 0 5 57),
  (57, oRetI),
  (58, oLdA 0 59),
  (59, oGet 5 0 62),
  (62, oGet 4 0 65),
  (65, oGet 0 6 68),
  (68, oCallS 178 1 0 0 0 0 71),
  (71, oRetI),
  (72, oLdA 0 73),
  (73, oGet 5 0 76),
  (76, oGet 4 0 79),
  (79, oLdA 0 80),
  (80, oGet 5 0 83),
  (83, oGet 4 2 86),
  (86, oCallV 14 0 1 0 0 0 0 89),
  (89, oRetI),
  (90, oLdA 0 91),
  (91, oGet 5 0 94),
  (94, oGet 4 4 97),
  (97, oRetI),
  (98, oI (-1) 99),
  (99, oRetI)]
set_option maxRecDepth 100000 in
theorem ck_X5_count {ini : Bool} : ∀ x ∈ cd_X5_count, OpOK qMT cX5_count RX5 2 (some .int) ini 0 0 none x.1 x.2 :=
  kc (ok_iload_n dX5_count_0 rfl) (
  kc (ok_sw dX5_count_1 (by decide) (by decide) (by decide)) (
  kc (ok_aload_n dX5_count_36 rfl) (
  kc (ok_get (T := TX5) (k := 0) dX5_count_37 rfl hin_X5 (by decide) hw_215) (
  kc (ok_get (T := TX4) (k := 0) dX5_count_40 rfl hin_X4 (by decide) hw_120) (
  kc (ok_get (T := TX0) (k := 4) dX5_count_43 rfl hin_X0 (by decide) hw_94) (
  kc (ok_retI dX5_count_46 rfl) (
  kc (ok_aload_n dX5_count_47 rfl) (
  kc (ok_get (T := TX5) (k := 0) dX5_count_48 rfl hin_X5 (by decide) hw_215) (
  kc (ok_get (T := TX4) (k := 0) dX5_count_51 rfl hin_X4 (by decide) hw_120) (
  kc (ok_get (T := TX0) (k := 5) dX5_count_54 rfl hin_X0 (by decide) hw_98) (
  kc (ok_retI dX5_count_57 rfl) (
  kc (ok_aload_n dX5_count_58 rfl) (
  kc (ok_get (T := TX5) (k := 0) dX5_count_59 rfl hin_X5 (by decide) hw_215) (
  kc (ok_get (T := TX4) (k := 0) dX5_count_62 rfl hin_X4 (by decide) hw_120) (
  kc (ok_get (T := TX0) (k := 6) dX5_count_65 rfl hin_X0 (by decide) hw_102) (
  kc (ok_callS dX5_count_68 qm_178 rfl rfl hw_386 hw_387 qp_178) (
  kc (ok_retI dX5_count_71 rfl) (
  kc (ok_aload_n dX5_count_72 rfl) (
  kc (ok_get (T := TX5) (k := 0) dX5_count_73 rfl hin_X5 (by decide) hw_215) (
  kc (ok_get (T := TX4) (k := 0) dX5_count_76 rfl hin_X4 (by decide) hw_120) (
  kc (ok_aload_n dX5_count_79 rfl) (
  kc (ok_get (T := TX5) (k := 0) dX5_count_80 rfl hin_X5 (by decide) hw_215) (
  kc (ok_get (T := TX4) (k := 2) dX5_count_83 rfl hin_X4 (by decide) hw_124) (
  kc (ok_callV (T := TX0) dX5_count_86 qm_14 rfl rfl rfl hw_392 hw_393 hw_394 qp_14) (
  kc (ok_retI dX5_count_89 rfl) (
  kc (ok_aload_n dX5_count_90 rfl) (
  kc (ok_get (T := TX5) (k := 0) dX5_count_91 rfl hin_X5 (by decide) hw_215) (
  kc (ok_get (T := TX4) (k := 4) dX5_count_94 rfl hin_X4 (by decide) hw_128) (
  kc (ok_retI dX5_count_97 rfl) (
  kc (ok_iconst dX5_count_98 (by decide)) (
  kc (ok_retI dX5_count_99 rfl) (
  kn))))))))))))))))))))))))))))))))
def cd_X5_sale : List (Nat × qOp) := [
  (0, oLdA 0 1),
  (1, oLdI 1 2),
  (2, oCallV 95 5 1 0 0 0 0 5),
  (5, oIfEq 25 8),
  (8, oLdI 2 9),
  (9, oCallS 92 1 0 0 0 0 12),
  (12, oIfEq 25 15),
  (15, oLdI 3 16),
  (16, oI (999) 19),
  (19, oCallS 91 2 0 0 0 0 22),
  (22, oIfNe 27 25),
  (25, oI (-1) 26),
  (26, oRetI),
  (27, oLdA 0 28),
  (28, oGet 5 0 31),
  (31, oGet 4 0 34),
  (34, oGet 0 1 37),
  (37, oLdI 1 38),
  (38, oALd 39),
  (39, oLdI 2 40),
  (40, oCmEq 56 43),
  (43, oLdA 0 44),
  (44, oGet 5 0 47),
  (47, oGet 4 1 50),
  (50, oLdI 2 51),
  (51, oALd 52),
  (52, oLdI 3 53),
  (53, oCmGe 59 56),
  (56, oI (-2) 58),
  (58, oRetI),
  (59, oLdA 0 60),
  (60, oGet 5 0 63),
  (63, oLdI 1 64),
  (64, oLdI 2 65),
  (65, oLdI 3 66),
  (66, oCallV 51 4 3 0 0 0 0 69),
  (69, oRetI)]
set_option maxRecDepth 100000 in
theorem ck_X5_sale {ini : Bool} : ∀ x ∈ cd_X5_sale, OpOK qMT cX5_sale RX5 4 (some .int) ini 0 0 none x.1 x.2 :=
  kc (ok_aload_n dX5_sale_0 rfl) (
  kc (ok_iload_n dX5_sale_1 rfl) (
  kc (ok_callV (T := TX5) dX5_sale_2 qm_95 rfl rfl rfl hw_282 hw_284 hw_0 qp_95) (
  kc (ok_if_eq dX5_sale_5 (by decide)) (
  kc (ok_iload_n dX5_sale_8 rfl) (
  kc (ok_callS dX5_sale_9 qm_92 rfl rfl hw_241 hw_242 qp_92) (
  kc (ok_if_eq dX5_sale_12 (by decide)) (
  kc (ok_iload_n dX5_sale_15 rfl) (
  kc (ok_sipush dX5_sale_16 (by decide)) (
  kc (ok_callS dX5_sale_19 qm_91 rfl rfl hw_244 hw_245 qp_91) (
  kc (ok_if_ne dX5_sale_22 (by decide)) (
  kc (ok_iconst dX5_sale_25 (by decide)) (
  kc (ok_retI dX5_sale_26 rfl) (
  kc (ok_aload_n dX5_sale_27 rfl) (
  kc (ok_get (T := TX5) (k := 0) dX5_sale_28 rfl hin_X5 (by decide) hw_215) (
  kc (ok_get (T := TX4) (k := 0) dX5_sale_31 rfl hin_X4 (by decide) hw_120) (
  kc (ok_get (T := TX0) (k := 1) dX5_sale_34 rfl hin_X0 (by decide) hw_87) (
  kc (ok_iload_n dX5_sale_37 rfl) (
  kc (ok_iaload dX5_sale_38) (
  kc (ok_iload_n dX5_sale_39 rfl) (
  kc (ok_cm_eq dX5_sale_40 (by decide)) (
  kc (ok_aload_n dX5_sale_43 rfl) (
  kc (ok_get (T := TX5) (k := 0) dX5_sale_44 rfl hin_X5 (by decide) hw_215) (
  kc (ok_get (T := TX4) (k := 1) dX5_sale_47 rfl hin_X4 (by decide) hw_122) (
  kc (ok_iload_n dX5_sale_50 rfl) (
  kc (ok_iaload dX5_sale_51) (
  kc (ok_iload_n dX5_sale_52 rfl) (
  kc (ok_cm_ge dX5_sale_53 (by decide)) (
  kc (ok_bipush dX5_sale_56 (by decide)) (
  kc (ok_retI dX5_sale_58 rfl) (
  kc (ok_aload_n dX5_sale_59 rfl) (
  kc (ok_get (T := TX5) (k := 0) dX5_sale_60 rfl hin_X5 (by decide) hw_215) (
  kc (ok_iload_n dX5_sale_63 rfl) (
  kc (ok_iload_n dX5_sale_64 rfl) (
  kc (ok_iload_n dX5_sale_65 rfl) (
  kc (ok_callV (T := TX4) dX5_sale_66 qm_51 rfl rfl rfl hw_403 hw_404 hw_405 qp_51) (
  kc (ok_retI dX5_sale_69 rfl) (
  kn)))))))))))))))))))))))))))))))))))))
def cd_X5_swap : List (Nat × qOp) := [
  (0, oLdA 0 1),
  (1, oLdI 1 2),
  (2, oCallV 95 5 1 0 0 0 0 5),
  (5, oIfEq 16 8),
  (8, oLdA 0 9),
  (9, oLdI 2 10),
  (10, oCallV 95 5 1 0 0 0 0 13),
  (13, oIfNe 18 16),
  (16, oI (-1) 17),
  (17, oRetI),
  (18, oLdA 0 19),
  (19, oGet 5 0 22),
  (22, oGet 4 0 25),
  (25, oGet 0 1 28),
  (28, oLdI 1 29),
  (29, oALd 30),
  (30, oLdA 0 31),
  (31, oGet 5 0 34),
  (34, oGet 4 0 37),
  (37, oGet 0 1 40),
  (40, oLdI 2 41),
  (41, oALd 42),
  (42, oCmNe 48 45),
  (45, oI (-2) 47),
  (47, oRetI),
  (48, oLdA 0 49),
  (49, oGet 5 0 52),
  (52, oDup 53),
  (53, oGet 4 4 56),
  (56, oI (2) 57),
  (57, oBin (fun x y => x + y) 58),
  (58, oPutI 4 4 61),
  (61, oLdA 0 62),
  (62, oGet 5 0 65),
  (65, oGet 4 0 68),
  (68, oLdI 1 69),
  (69, oLdI 2 70),
  (70, oCallV 7 0 2 0 0 0 0 73),
  (73, oRetI)]
set_option maxRecDepth 100000 in
theorem ck_X5_swap {ini : Bool} : ∀ x ∈ cd_X5_swap, OpOK qMT cX5_swap RX5 3 (some .int) ini 0 0 none x.1 x.2 :=
  kc (ok_aload_n dX5_swap_0 rfl) (
  kc (ok_iload_n dX5_swap_1 rfl) (
  kc (ok_callV (T := TX5) dX5_swap_2 qm_95 rfl rfl rfl hw_282 hw_284 hw_0 qp_95) (
  kc (ok_if_eq dX5_swap_5 (by decide)) (
  kc (ok_aload_n dX5_swap_8 rfl) (
  kc (ok_iload_n dX5_swap_9 rfl) (
  kc (ok_callV (T := TX5) dX5_swap_10 qm_95 rfl rfl rfl hw_282 hw_284 hw_0 qp_95) (
  kc (ok_if_ne dX5_swap_13 (by decide)) (
  kc (ok_iconst dX5_swap_16 (by decide)) (
  kc (ok_retI dX5_swap_17 rfl) (
  kc (ok_aload_n dX5_swap_18 rfl) (
  kc (ok_get (T := TX5) (k := 0) dX5_swap_19 rfl hin_X5 (by decide) hw_215) (
  kc (ok_get (T := TX4) (k := 0) dX5_swap_22 rfl hin_X4 (by decide) hw_120) (
  kc (ok_get (T := TX0) (k := 1) dX5_swap_25 rfl hin_X0 (by decide) hw_87) (
  kc (ok_iload_n dX5_swap_28 rfl) (
  kc (ok_iaload dX5_swap_29) (
  kc (ok_aload_n dX5_swap_30 rfl) (
  kc (ok_get (T := TX5) (k := 0) dX5_swap_31 rfl hin_X5 (by decide) hw_215) (
  kc (ok_get (T := TX4) (k := 0) dX5_swap_34 rfl hin_X4 (by decide) hw_120) (
  kc (ok_get (T := TX0) (k := 1) dX5_swap_37 rfl hin_X0 (by decide) hw_87) (
  kc (ok_iload_n dX5_swap_40 rfl) (
  kc (ok_iaload dX5_swap_41) (
  kc (ok_cm_ne dX5_swap_42 (by decide)) (
  kc (ok_bipush dX5_swap_45 (by decide)) (
  kc (ok_retI dX5_swap_47 rfl) (
  kc (ok_aload_n dX5_swap_48 rfl) (
  kc (ok_get (T := TX5) (k := 0) dX5_swap_49 rfl hin_X5 (by decide) hw_215) (
  kc (ok_dup dX5_swap_52) (
  kc (ok_get (T := TX4) (k := 4) dX5_swap_53 rfl hin_X4 (by decide) hw_128) (
  kc (ok_iconst dX5_swap_56 (by decide)) (
  kc (ok_iadd dX5_swap_57) (
  kc (ok_putI (T := TX4) (k := 4) dX5_swap_58 rfl hin_X4 tyX4_ok nmX4 (by decide) hw_128 rfl (tyX4_ok 4 (by decide))) (
  kc (ok_aload_n dX5_swap_61 rfl) (
  kc (ok_get (T := TX5) (k := 0) dX5_swap_62 rfl hin_X5 (by decide) hw_215) (
  kc (ok_get (T := TX4) (k := 0) dX5_swap_65 rfl hin_X4 (by decide) hw_120) (
  kc (ok_iload_n dX5_swap_68 rfl) (
  kc (ok_iload_n dX5_swap_69 rfl) (
  kc (ok_callV (T := TX0) dX5_swap_70 qm_7 rfl rfl rfl hw_426 hw_427 hw_428 qp_7) (
  kc (ok_retI dX5_swap_73 rfl) (
  kn)))))))))))))))))))))))))))))))))))))))
def cd_X5_give : List (Nat × qOp) := [
  (0, oLdA 0 1),
  (1, oLdI 1 2),
  (2, oCallV 95 5 1 0 0 0 0 5),
  (5, oIfNe 10 8),
  (8, oI (-1) 9),
  (9, oRetI),
  (10, oLdA 0 11),
  (11, oGet 5 0 14),
  (14, oGet 4 0 17),
  (17, oGet 0 1 20),
  (20, oLdI 1 21),
  (21, oALd 22),
  (22, oI (6) 24),
  (24, oCmNe 30 27),
  (27, oI (-2) 29),
  (29, oRetI),
  (30, oLdA 0 31),
  (31, oGet 5 0 34),
  (34, oDup 35),
  (35, oGet 4 4 38),
  (38, oI (1) 39),
  (39, oBin (fun x y => x + y) 40),
  (40, oPutI 4 4 43),
  (43, oLdA 0 44),
  (44, oGet 5 0 47),
  (47, oGet 4 0 50),
  (50, oLdI 1 51),
  (51, oI (6) 53),
  (53, oCallV 6 0 2 0 0 0 0 56),
  (56, oRetI)]
set_option maxRecDepth 100000 in
theorem ck_X5_give {ini : Bool} : ∀ x ∈ cd_X5_give, OpOK qMT cX5_give RX5 2 (some .int) ini 0 0 none x.1 x.2 :=
  kc (ok_aload_n dX5_give_0 rfl) (
  kc (ok_iload_n dX5_give_1 rfl) (
  kc (ok_callV (T := TX5) dX5_give_2 qm_95 rfl rfl rfl hw_282 hw_284 hw_0 qp_95) (
  kc (ok_if_ne dX5_give_5 (by decide)) (
  kc (ok_iconst dX5_give_8 (by decide)) (
  kc (ok_retI dX5_give_9 rfl) (
  kc (ok_aload_n dX5_give_10 rfl) (
  kc (ok_get (T := TX5) (k := 0) dX5_give_11 rfl hin_X5 (by decide) hw_215) (
  kc (ok_get (T := TX4) (k := 0) dX5_give_14 rfl hin_X4 (by decide) hw_120) (
  kc (ok_get (T := TX0) (k := 1) dX5_give_17 rfl hin_X0 (by decide) hw_87) (
  kc (ok_iload_n dX5_give_20 rfl) (
  kc (ok_iaload dX5_give_21) (
  kc (ok_bipush dX5_give_22 (by decide)) (
  kc (ok_cm_ne dX5_give_24 (by decide)) (
  kc (ok_bipush dX5_give_27 (by decide)) (
  kc (ok_retI dX5_give_29 rfl) (
  kc (ok_aload_n dX5_give_30 rfl) (
  kc (ok_get (T := TX5) (k := 0) dX5_give_31 rfl hin_X5 (by decide) hw_215) (
  kc (ok_dup dX5_give_34) (
  kc (ok_get (T := TX4) (k := 4) dX5_give_35 rfl hin_X4 (by decide) hw_128) (
  kc (ok_iconst dX5_give_38 (by decide)) (
  kc (ok_iadd dX5_give_39) (
  kc (ok_putI (T := TX4) (k := 4) dX5_give_40 rfl hin_X4 tyX4_ok nmX4 (by decide) hw_128 rfl (tyX4_ok 4 (by decide))) (
  kc (ok_aload_n dX5_give_43 rfl) (
  kc (ok_get (T := TX5) (k := 0) dX5_give_44 rfl hin_X5 (by decide) hw_215) (
  kc (ok_get (T := TX4) (k := 0) dX5_give_47 rfl hin_X4 (by decide) hw_120) (
  kc (ok_iload_n dX5_give_50 rfl) (
  kc (ok_bipush dX5_give_51 (by decide)) (
  kc (ok_callV (T := TX0) dX5_give_53 qm_6 rfl rfl rfl hw_434 hw_411 hw_412 qp_6) (
  kc (ok_retI dX5_give_56 rfl) (
  kn))))))))))))))))))))))))))))))
def cd_X5_wed : List (Nat × qOp) := [
  (0, oLdI 1 1),
  (1, oCallS 92 1 0 0 0 0 4),
  (4, oIfEq 19 7),
  (7, oLdI 2 8),
  (8, oCallS 92 1 0 0 0 0 11),
  (11, oIfEq 19 14),
  (14, oLdI 1 15),
  (15, oLdI 2 16),
  (16, oCmNe 21 19),
  (19, oI (-1) 20),
  (20, oRetI),
  (21, oLdA 0 22),
  (22, oGet 5 0 25),
  (25, oGet 4 1 28),
  (28, oLdI 1 29),
  (29, oI (9999) 32),
  (32, oLdA 0 33),
  (33, oGet 5 0 36),
  (36, oGet 4 1 39),
  (39, oLdI 1 40),
  (40, oALd 41),
  (41, oLdA 0 42),
  (42, oGet 5 0 45),
  (45, oGet 4 1 48),
  (48, oLdI 2 49),
  (49, oALd 50),
  (50, oBin (fun x y => x + y) 51),
  (51, oMin 0 0 54),
  (54, oASt 55),
  (55, oLdA 0 56),
  (56, oGet 5 0 59),
  (59, oGet 4 1 62),
  (62, oLdI 2 63),
  (63, oI (0) 64),
  (64, oASt 65),
  (65, oLdA 0 66),
  (66, oGet 5 0 69),
  (69, oGet 4 0 72),
  (72, oLdI 1 73),
  (73, oLdI 2 74),
  (74, oCallV 10 0 2 0 0 0 0 77),
  (77, oRetI)]
set_option maxRecDepth 100000 in
theorem ck_X5_wed {ini : Bool} : ∀ x ∈ cd_X5_wed, OpOK qMT cX5_wed RX5 3 (some .int) ini 0 0 none x.1 x.2 :=
  kc (ok_iload_n dX5_wed_0 rfl) (
  kc (ok_callS dX5_wed_1 qm_92 rfl rfl hw_241 hw_242 qp_92) (
  kc (ok_if_eq dX5_wed_4 (by decide)) (
  kc (ok_iload_n dX5_wed_7 rfl) (
  kc (ok_callS dX5_wed_8 qm_92 rfl rfl hw_241 hw_242 qp_92) (
  kc (ok_if_eq dX5_wed_11 (by decide)) (
  kc (ok_iload_n dX5_wed_14 rfl) (
  kc (ok_iload_n dX5_wed_15 rfl) (
  kc (ok_cm_ne dX5_wed_16 (by decide)) (
  kc (ok_iconst dX5_wed_19 (by decide)) (
  kc (ok_retI dX5_wed_20 rfl) (
  kc (ok_aload_n dX5_wed_21 rfl) (
  kc (ok_get (T := TX5) (k := 0) dX5_wed_22 rfl hin_X5 (by decide) hw_215) (
  kc (ok_get (T := TX4) (k := 1) dX5_wed_25 rfl hin_X4 (by decide) hw_122) (
  kc (ok_iload_n dX5_wed_28 rfl) (
  kc (ok_sipush dX5_wed_29 (by decide)) (
  kc (ok_aload_n dX5_wed_32 rfl) (
  kc (ok_get (T := TX5) (k := 0) dX5_wed_33 rfl hin_X5 (by decide) hw_215) (
  kc (ok_get (T := TX4) (k := 1) dX5_wed_36 rfl hin_X4 (by decide) hw_122) (
  kc (ok_iload_n dX5_wed_39 rfl) (
  kc (ok_iaload dX5_wed_40) (
  kc (ok_aload_n dX5_wed_41 rfl) (
  kc (ok_get (T := TX5) (k := 0) dX5_wed_42 rfl hin_X5 (by decide) hw_215) (
  kc (ok_get (T := TX4) (k := 1) dX5_wed_45 rfl hin_X4 (by decide) hw_122) (
  kc (ok_iload_n dX5_wed_48 rfl) (
  kc (ok_iaload dX5_wed_49) (
  kc (ok_iadd dX5_wed_50) (
  kc (ok_min dX5_wed_51 hw_439 hw_408 hw_61 hw_409) (
  kc (ok_iastore dX5_wed_54) (
  kc (ok_aload_n dX5_wed_55 rfl) (
  kc (ok_get (T := TX5) (k := 0) dX5_wed_56 rfl hin_X5 (by decide) hw_215) (
  kc (ok_get (T := TX4) (k := 1) dX5_wed_59 rfl hin_X4 (by decide) hw_122) (
  kc (ok_iload_n dX5_wed_62 rfl) (
  kc (ok_iconst dX5_wed_63 (by decide)) (
  kc (ok_iastore dX5_wed_64) (
  kc (ok_aload_n dX5_wed_65 rfl) (
  kc (ok_get (T := TX5) (k := 0) dX5_wed_66 rfl hin_X5 (by decide) hw_215) (
  kc (ok_get (T := TX4) (k := 0) dX5_wed_69 rfl hin_X4 (by decide) hw_120) (
  kc (ok_iload_n dX5_wed_72 rfl) (
  kc (ok_iload_n dX5_wed_73 rfl) (
  kc (ok_callV (T := TX0) dX5_wed_74 qm_10 rfl rfl rfl hw_440 hw_441 hw_442 qp_10) (
  kc (ok_retI dX5_wed_77 rfl) (
  kn))))))))))))))))))))))))))))))))))))))))))
def cd_X5_part : List (Nat × qOp) := [
  (0, oLdA 0 1),
  (1, oLdI 1 2),
  (2, oCallV 95 5 1 0 0 0 0 5),
  (5, oIfEq 28 8),
  (8, oLdI 2 9),
  (9, oIfLt 28 12),
  (12, oLdI 2 13),
  (13, oI (1) 14),
  (14, oLdA 0 15),
  (15, oGet 5 0 18),
  (18, oGet 4 0 21),
  (21, oGet 0 5 24),
  (24, oBin (fun x y => x <<< (y &&& 31)) 25),
  (25, oCmLt 30 28),
  (28, oI (-1) 29),
  (29, oRetI),
  (30, oLdA 0 31),
  (31, oGet 5 0 34),
  (34, oGet 4 0 37),
  (37, oGet 0 4 40),
  (40, oI (8) 42),
  (42, oCmLt 48 45),
  (45, oI (-3) 47),
  (47, oRetI),
  (48, oLdA 0 49),
  (49, oGet 5 0 52),
  (52, oLdI 1 53),
  (53, oLdI 2 54),
  (54, oCallV 52 4 2 0 0 0 0 57),
  (57, oRetI)]
set_option maxRecDepth 100000 in
theorem ck_X5_part {ini : Bool} : ∀ x ∈ cd_X5_part, OpOK qMT cX5_part RX5 3 (some .int) ini 0 0 none x.1 x.2 :=
  kc (ok_aload_n dX5_part_0 rfl) (
  kc (ok_iload_n dX5_part_1 rfl) (
  kc (ok_callV (T := TX5) dX5_part_2 qm_95 rfl rfl rfl hw_282 hw_284 hw_0 qp_95) (
  kc (ok_if_eq dX5_part_5 (by decide)) (
  kc (ok_iload_n dX5_part_8 rfl) (
  kc (ok_if_lt dX5_part_9 (by decide)) (
  kc (ok_iload_n dX5_part_12 rfl) (
  kc (ok_iconst dX5_part_13 (by decide)) (
  kc (ok_aload_n dX5_part_14 rfl) (
  kc (ok_get (T := TX5) (k := 0) dX5_part_15 rfl hin_X5 (by decide) hw_215) (
  kc (ok_get (T := TX4) (k := 0) dX5_part_18 rfl hin_X4 (by decide) hw_120) (
  kc (ok_get (T := TX0) (k := 5) dX5_part_21 rfl hin_X0 (by decide) hw_98) (
  kc (ok_ishl dX5_part_24) (
  kc (ok_cm_lt dX5_part_25 (by decide)) (
  kc (ok_iconst dX5_part_28 (by decide)) (
  kc (ok_retI dX5_part_29 rfl) (
  kc (ok_aload_n dX5_part_30 rfl) (
  kc (ok_get (T := TX5) (k := 0) dX5_part_31 rfl hin_X5 (by decide) hw_215) (
  kc (ok_get (T := TX4) (k := 0) dX5_part_34 rfl hin_X4 (by decide) hw_120) (
  kc (ok_get (T := TX0) (k := 4) dX5_part_37 rfl hin_X0 (by decide) hw_94) (
  kc (ok_bipush dX5_part_40 (by decide)) (
  kc (ok_cm_lt dX5_part_42 (by decide)) (
  kc (ok_bipush dX5_part_45 (by decide)) (
  kc (ok_retI dX5_part_47 rfl) (
  kc (ok_aload_n dX5_part_48 rfl) (
  kc (ok_get (T := TX5) (k := 0) dX5_part_49 rfl hin_X5 (by decide) hw_215) (
  kc (ok_iload_n dX5_part_52 rfl) (
  kc (ok_iload_n dX5_part_53 rfl) (
  kc (ok_callV (T := TX4) dX5_part_54 qm_52 rfl rfl rfl hw_448 hw_449 hw_450 qp_52) (
  kc (ok_retI dX5_part_57 rfl) (
  kn))))))))))))))))))))))))))))))
def cd_X5_gain : List (Nat × qOp) := [
  (0, oLdA 0 1),
  (1, oLdI 1 2),
  (2, oCallV 95 5 1 0 0 0 0 5),
  (5, oIfEq 23 8),
  (8, oLdI 2 9),
  (9, oCallS 92 1 0 0 0 0 12),
  (12, oIfEq 23 15),
  (15, oLdI 3 16),
  (16, oI (1) 17),
  (17, oCallS 91 2 0 0 0 0 20),
  (20, oIfNe 26 23),
  (23, oI (-100001) 25),
  (25, oRetI),
  (26, oLdA 0 27),
  (27, oGet 5 0 30),
  (30, oGet 4 0 33),
  (33, oGet 0 1 36),
  (36, oLdI 1 37),
  (37, oALd 38),
  (38, oStI 4 40),
  (40, oLdI 4 42),
  (42, oLdI 2 43),
  (43, oCmNe 49 46),
  (46, oI (-100002) 48),
  (48, oRetI),
  (49, oLdA 0 50),
  (50, oLdI 1 51),
  (51, oLdI 2 52),
  (52, oCallV 98 5 2 0 0 0 0 55),
  (55, oLdA 0 56),
  (56, oLdI 3 57),
  (57, oIfNe 65 60),
  (60, oLdI 4 62),
  (62, oGoto 66),
  (65, oLdI 2 66),
  (66, oCallV 99 5 1 0 0 0 0 69),
  (69, oRetI)]
set_option maxRecDepth 100000 in
theorem ck_X5_gain {ini : Bool} : ∀ x ∈ cd_X5_gain, OpOK qMT cX5_gain RX5 5 (some .int) ini 0 0 none x.1 x.2 :=
  kc (ok_aload_n dX5_gain_0 rfl) (
  kc (ok_iload_n dX5_gain_1 rfl) (
  kc (ok_callV (T := TX5) dX5_gain_2 qm_95 rfl rfl rfl hw_282 hw_284 hw_0 qp_95) (
  kc (ok_if_eq dX5_gain_5 (by decide)) (
  kc (ok_iload_n dX5_gain_8 rfl) (
  kc (ok_callS dX5_gain_9 qm_92 rfl rfl hw_241 hw_242 qp_92) (
  kc (ok_if_eq dX5_gain_12 (by decide)) (
  kc (ok_iload_n dX5_gain_15 rfl) (
  kc (ok_iconst dX5_gain_16 (by decide)) (
  kc (ok_callS dX5_gain_17 qm_91 rfl rfl hw_244 hw_245 qp_91) (
  kc (ok_if_ne dX5_gain_20 (by decide)) (
  kc (ok_ldc dX5_gain_23 hw_325) (
  kc (ok_retI dX5_gain_25 rfl) (
  kc (ok_aload_n dX5_gain_26 rfl) (
  kc (ok_get (T := TX5) (k := 0) dX5_gain_27 rfl hin_X5 (by decide) hw_215) (
  kc (ok_get (T := TX4) (k := 0) dX5_gain_30 rfl hin_X4 (by decide) hw_120) (
  kc (ok_get (T := TX0) (k := 1) dX5_gain_33 rfl hin_X0 (by decide) hw_87) (
  kc (ok_iload_n dX5_gain_36 rfl) (
  kc (ok_iaload dX5_gain_37) (
  kc (ok_istore dX5_gain_38) (
  kc (ok_iload dX5_gain_40) (
  kc (ok_iload_n dX5_gain_42 rfl) (
  kc (ok_cm_ne dX5_gain_43 (by decide)) (
  kc (ok_ldc dX5_gain_46 hw_461) (
  kc (ok_retI dX5_gain_48 rfl) (
  kc (ok_aload_n dX5_gain_49 rfl) (
  kc (ok_iload_n dX5_gain_50 rfl) (
  kc (ok_iload_n dX5_gain_51 rfl) (
  kc (ok_callV (T := TX5) dX5_gain_52 qm_98 rfl rfl rfl hw_462 hw_464 hw_8 qp_98) (
  kc (ok_aload_n dX5_gain_55 rfl) (
  kc (ok_iload_n dX5_gain_56 rfl) (
  kc (ok_if_ne dX5_gain_57 (by decide)) (
  kc (ok_iload dX5_gain_60) (
  kc (ok_goto dX5_gain_62 (by decide)) (
  kc (ok_iload_n dX5_gain_65 rfl) (
  kc (ok_callV (T := TX5) dX5_gain_66 qm_99 rfl rfl rfl hw_471 hw_473 hw_9 qp_99) (
  kc (ok_retI dX5_gain_69 rfl) (
  kn)))))))))))))))))))))))))))))))))))))
def cd_X5_agreed : List (Nat × qOp) := [
  (0, oLdA 0 1),
  (1, oLdI 1 2),
  (2, oCallV 95 5 1 0 0 0 0 5),
  (5, oIfEq 15 8),
  (8, oLdI 2 9),
  (9, oCallS 92 1 0 0 0 0 12),
  (12, oIfNe 17 15),
  (15, oI (-1) 16),
  (16, oRetI),
  (17, oLdA 0 18),
  (18, oGet 5 0 21),
  (21, oGet 4 0 24),
  (24, oGet 0 1 27),
  (27, oLdI 1 28),
  (28, oALd 29),
  (29, oStI 3 30),
  (30, oLdI 3 31),
  (31, oI (6) 33),
  (33, oCmEq 41 36),
  (36, oLdI 3 37),
  (37, oLdI 2 38),
  (38, oCmNe 44 41),
  (41, oI (-2) 43),
  (43, oRetI),
  (44, oLdA 0 45),
  (45, oLdI 1 46),
  (46, oLdI 2 47),
  (47, oCallV 98 5 2 0 0 0 0 50),
  (50, oI (0) 51),
  (51, oI (1) 52),
  (52, oLdA 0 53),
  (53, oLdI 3 54),
  (54, oCallV 99 5 1 0 0 0 0 57),
  (57, oBin (fun x y => x - y) 58),
  (58, oMax 0 0 61),
  (61, oStI 4 63),
  (63, oLdI 4 65),
  (65, oI (999) 68),
  (68, oCmGt 99 71),
  (71, oLdI 4 73),
  (73, oLdA 0 74),
  (74, oGet 5 0 77),
  (77, oGet 4 1 80),
  (80, oLdI 2 81),
  (81, oALd 82),
  (82, oCmGt 99 85),
  (85, oLdA 0 86),
  (86, oLdI 2 87),
  (87, oCallV 99 5 1 0 0 0 0 90),
  (90, oLdI 4 92),
  (92, oCmLe 99 95),
  (95, oI (1) 96),
  (96, oGoto 100),
  (99, oI (0) 100),
  (100, oStI 5 102),
  (102, oLdI 5 104),
  (104, oIfEq 112 107),
  (107, oLdI 4 109),
  (109, oGoto 114),
  (112, oI (-4) 114),
  (114, oRetI)]
set_option maxRecDepth 100000 in
theorem ck_X5_agreed {ini : Bool} : ∀ x ∈ cd_X5_agreed, OpOK qMT cX5_agreed RX5 6 (some .int) ini 0 0 none x.1 x.2 :=
  kc (ok_aload_n dX5_agreed_0 rfl) (
  kc (ok_iload_n dX5_agreed_1 rfl) (
  kc (ok_callV (T := TX5) dX5_agreed_2 qm_95 rfl rfl rfl hw_282 hw_284 hw_0 qp_95) (
  kc (ok_if_eq dX5_agreed_5 (by decide)) (
  kc (ok_iload_n dX5_agreed_8 rfl) (
  kc (ok_callS dX5_agreed_9 qm_92 rfl rfl hw_241 hw_242 qp_92) (
  kc (ok_if_ne dX5_agreed_12 (by decide)) (
  kc (ok_iconst dX5_agreed_15 (by decide)) (
  kc (ok_retI dX5_agreed_16 rfl) (
  kc (ok_aload_n dX5_agreed_17 rfl) (
  kc (ok_get (T := TX5) (k := 0) dX5_agreed_18 rfl hin_X5 (by decide) hw_215) (
  kc (ok_get (T := TX4) (k := 0) dX5_agreed_21 rfl hin_X4 (by decide) hw_120) (
  kc (ok_get (T := TX0) (k := 1) dX5_agreed_24 rfl hin_X0 (by decide) hw_87) (
  kc (ok_iload_n dX5_agreed_27 rfl) (
  kc (ok_iaload dX5_agreed_28) (
  kc (ok_istore_n dX5_agreed_29 rfl) (
  kc (ok_iload_n dX5_agreed_30 rfl) (
  kc (ok_bipush dX5_agreed_31 (by decide)) (
  kc (ok_cm_eq dX5_agreed_33 (by decide)) (
  kc (ok_iload_n dX5_agreed_36 rfl) (
  kc (ok_iload_n dX5_agreed_37 rfl) (
  kc (ok_cm_ne dX5_agreed_38 (by decide)) (
  kc (ok_bipush dX5_agreed_41 (by decide)) (
  kc (ok_retI dX5_agreed_43 rfl) (
  kc (ok_aload_n dX5_agreed_44 rfl) (
  kc (ok_iload_n dX5_agreed_45 rfl) (
  kc (ok_iload_n dX5_agreed_46 rfl) (
  kc (ok_callV (T := TX5) dX5_agreed_47 qm_98 rfl rfl rfl hw_462 hw_464 hw_8 qp_98) (
  kc (ok_iconst dX5_agreed_50 (by decide)) (
  kc (ok_iconst dX5_agreed_51 (by decide)) (
  kc (ok_aload_n dX5_agreed_52 rfl) (
  kc (ok_iload_n dX5_agreed_53 rfl) (
  kc (ok_callV (T := TX5) dX5_agreed_54 qm_99 rfl rfl rfl hw_471 hw_473 hw_9 qp_99) (
  kc (ok_isub dX5_agreed_57) (
  kc (ok_max dX5_agreed_58 hw_479 hw_480 hw_61 hw_481) (
  kc (ok_istore dX5_agreed_61) (
  kc (ok_iload dX5_agreed_63) (
  kc (ok_sipush dX5_agreed_65 (by decide)) (
  kc (ok_cm_gt dX5_agreed_68 (by decide)) (
  kc (ok_iload dX5_agreed_71) (
  kc (ok_aload_n dX5_agreed_73 rfl) (
  kc (ok_get (T := TX5) (k := 0) dX5_agreed_74 rfl hin_X5 (by decide) hw_215) (
  kc (ok_get (T := TX4) (k := 1) dX5_agreed_77 rfl hin_X4 (by decide) hw_122) (
  kc (ok_iload_n dX5_agreed_80 rfl) (
  kc (ok_iaload dX5_agreed_81) (
  kc (ok_cm_gt dX5_agreed_82 (by decide)) (
  kc (ok_aload_n dX5_agreed_85 rfl) (
  kc (ok_iload_n dX5_agreed_86 rfl) (
  kc (ok_callV (T := TX5) dX5_agreed_87 qm_99 rfl rfl rfl hw_471 hw_473 hw_9 qp_99) (
  kc (ok_iload dX5_agreed_90) (
  kc (ok_cm_le dX5_agreed_92 (by decide)) (
  kc (ok_iconst dX5_agreed_95 (by decide)) (
  kc (ok_goto dX5_agreed_96 (by decide)) (
  kc (ok_iconst dX5_agreed_99 (by decide)) (
  kc (ok_istore dX5_agreed_100) (
  kc (ok_iload dX5_agreed_102) (
  kc (ok_if_eq dX5_agreed_104 (by decide)) (
  kc (ok_iload dX5_agreed_107) (
  kc (ok_goto dX5_agreed_109 (by decide)) (
  kc (ok_bipush dX5_agreed_112 (by decide)) (
  kc (ok_retI dX5_agreed_114 rfl) (
  kn)))))))))))))))))))))))))))))))))))))))))))))))))))))))))))))
def cd_X5_rest : List (Nat × qOp) := [
  (0, oLdI 1 1),
  (1, oI (1) 2),
  (2, oCmLt 11 5),
  (5, oLdI 1 6),
  (6, oI (60) 8),
  (8, oCmLe 13 11),
  (11, oI (-1) 12),
  (12, oRetI),
  (13, oI (0) 14),
  (14, oStI 2 15),
  (15, oLdI 2 16),
  (16, oLdI 1 17),
  (17, oCmGe 33 20),
  (20, oLdA 0 21),
  (21, oCallV 100 5 0 0 0 0 0 24),
  (24, oIfEq 33 27),
  (27, oInc 2 (1) 30),
  (30, oGoto 15),
  (33, oLdI 2 34),
  (34, oRetI)]
set_option maxRecDepth 100000 in
theorem ck_X5_rest {ini : Bool} : ∀ x ∈ cd_X5_rest, OpOK qMT cX5_rest RX5 3 (some .int) ini 0 0 none x.1 x.2 :=
  kc (ok_iload_n dX5_rest_0 rfl) (
  kc (ok_iconst dX5_rest_1 (by decide)) (
  kc (ok_cm_lt dX5_rest_2 (by decide)) (
  kc (ok_iload_n dX5_rest_5 rfl) (
  kc (ok_bipush dX5_rest_6 (by decide)) (
  kc (ok_cm_le dX5_rest_8 (by decide)) (
  kc (ok_iconst dX5_rest_11 (by decide)) (
  kc (ok_retI dX5_rest_12 rfl) (
  kc (ok_iconst dX5_rest_13 (by decide)) (
  kc (ok_istore_n dX5_rest_14 rfl) (
  kc (ok_iload_n dX5_rest_15 rfl) (
  kc (ok_iload_n dX5_rest_16 rfl) (
  kc (ok_cm_ge dX5_rest_17 (by decide)) (
  kc (ok_aload_n dX5_rest_20 rfl) (
  kc (ok_callV (T := TX5) dX5_rest_21 qm_100 rfl rfl rfl hw_486 hw_488 hw_10 qp_100) (
  kc (ok_if_eq dX5_rest_24 (by decide)) (
  kc (ok_iinc dX5_rest_27 (by decide)) (
  kc (ok_goto dX5_rest_30 (by decide)) (
  kc (ok_iload_n dX5_rest_33 rfl) (
  kc (ok_retI dX5_rest_34 rfl) (
  kn))))))))))))))))))))
def cd_X5_group : List (Nat × qOp) := [
  (0, oLdI 1 1),
  (1, oI (-1) 2),
  (2, oCmNe 16 5),
  (5, oLdA 0 6),
  (6, oGet 5 0 9),
  (9, oGet 4 0 12),
  (12, oCallV 20 0 0 0 0 0 0 15),
  (15, oRetI),
  (16, oLdA 0 17),
  (17, oLdI 1 18),
  (18, oCallV 95 5 1 0 0 0 0 21),
  (21, oIfEq 38 24),
  (24, oLdA 0 25),
  (25, oGet 5 0 28),
  (28, oGet 4 0 31),
  (31, oLdI 1 32),
  (32, oCallV 18 0 1 0 0 0 0 35),
  (35, oGoto 39),
  (38, oI (-1) 39),
  (39, oRetI)]
set_option maxRecDepth 100000 in
theorem ck_X5_group {ini : Bool} : ∀ x ∈ cd_X5_group, OpOK qMT cX5_group RX5 2 (some .int) ini 0 0 none x.1 x.2 :=
  kc (ok_iload_n dX5_group_0 rfl) (
  kc (ok_iconst dX5_group_1 (by decide)) (
  kc (ok_cm_ne dX5_group_2 (by decide)) (
  kc (ok_aload_n dX5_group_5 rfl) (
  kc (ok_get (T := TX5) (k := 0) dX5_group_6 rfl hin_X5 (by decide) hw_215) (
  kc (ok_get (T := TX4) (k := 0) dX5_group_9 rfl hin_X4 (by decide) hw_120) (
  kc (ok_callV (T := TX0) dX5_group_12 qm_20 rfl rfl rfl hw_495 hw_496 hw_497 qp_20) (
  kc (ok_retI dX5_group_15 rfl) (
  kc (ok_aload_n dX5_group_16 rfl) (
  kc (ok_iload_n dX5_group_17 rfl) (
  kc (ok_callV (T := TX5) dX5_group_18 qm_95 rfl rfl rfl hw_282 hw_284 hw_0 qp_95) (
  kc (ok_if_eq dX5_group_21 (by decide)) (
  kc (ok_aload_n dX5_group_24 rfl) (
  kc (ok_get (T := TX5) (k := 0) dX5_group_25 rfl hin_X5 (by decide) hw_215) (
  kc (ok_get (T := TX4) (k := 0) dX5_group_28 rfl hin_X4 (by decide) hw_120) (
  kc (ok_iload_n dX5_group_31 rfl) (
  kc (ok_callV (T := TX0) dX5_group_32 qm_18 rfl rfl rfl hw_511 hw_504 hw_505 qp_18) (
  kc (ok_goto dX5_group_35 (by decide)) (
  kc (ok_iconst dX5_group_38 (by decide)) (
  kc (ok_retI dX5_group_39 rfl) (
  kn))))))))))))))))))))
def cd_X5_never : List (Nat × qOp) := [
  (0, oLdA 0 1),
  (1, oGet 5 0 4),
  (4, oGet 4 0 7),
  (7, oCallV 16 0 0 0 0 0 0 10),
  (10, oRetI)]
set_option maxRecDepth 100000 in
theorem ck_X5_never {ini : Bool} : ∀ x ∈ cd_X5_never, OpOK qMT cX5_never RX5 1 (some .int) ini 0 0 none x.1 x.2 :=
  kc (ok_aload_n dX5_never_0 rfl) (
  kc (ok_get (T := TX5) (k := 0) dX5_never_1 rfl hin_X5 (by decide) hw_215) (
  kc (ok_get (T := TX4) (k := 0) dX5_never_4 rfl hin_X4 (by decide) hw_120) (
  kc (ok_callV (T := TX0) dX5_never_7 qm_16 rfl rfl rfl hw_516 hw_517 hw_518 qp_16) (
  kc (ok_retI dX5_never_10 rfl) (
  kn)))))
def cd_X5_fewest : List (Nat × qOp) := [
  (0, oLdI 1 1),
  (1, oI (-1) 2),
  (2, oCmLt 10 5),
  (5, oLdI 1 6),
  (6, oI (3) 7),
  (7, oCmLt 12 10),
  (10, oI (-1) 11),
  (11, oRetI),
  (12, oLdA 0 13),
  (13, oGet 5 4 16),
  (16, oLdA 0 17),
  (17, oGet 5 0 20),
  (20, oGet 4 0 23),
  (23, oCallV 22 1 1 0 0 0 0 26),
  (26, oStI 2 27),
  (27, oLdI 1 28),
  (28, oI (-1) 29),
  (29, oCmNe 34 32),
  (32, oLdI 2 33),
  (33, oRetI),
  (34, oLdI 1 35),
  (35, oLdI 2 36),
  (36, oCmGe 51 39),
  (39, oLdA 0 40),
  (40, oGet 5 4 43),
  (43, oGet 1 2 46),
  (46, oLdI 1 47),
  (47, oALd 48),
  (48, oGoto 53),
  (51, oI (-4) 53),
  (53, oRetI)]
set_option maxRecDepth 100000 in
theorem ck_X5_fewest {ini : Bool} : ∀ x ∈ cd_X5_fewest, OpOK qMT cX5_fewest RX5 3 (some .int) ini 0 0 none x.1 x.2 :=
  kc (ok_iload_n dX5_fewest_0 rfl) (
  kc (ok_iconst dX5_fewest_1 (by decide)) (
  kc (ok_cm_lt dX5_fewest_2 (by decide)) (
  kc (ok_iload_n dX5_fewest_5 rfl) (
  kc (ok_iconst dX5_fewest_6 (by decide)) (
  kc (ok_cm_lt dX5_fewest_7 (by decide)) (
  kc (ok_iconst dX5_fewest_10 (by decide)) (
  kc (ok_retI dX5_fewest_11 rfl) (
  kc (ok_aload_n dX5_fewest_12 rfl) (
  kc (ok_get (T := TX5) (k := 4) dX5_fewest_13 rfl hin_X5 (by decide) hw_219) (
  kc (ok_aload_n dX5_fewest_16 rfl) (
  kc (ok_get (T := TX5) (k := 0) dX5_fewest_17 rfl hin_X5 (by decide) hw_215) (
  kc (ok_get (T := TX4) (k := 0) dX5_fewest_20 rfl hin_X4 (by decide) hw_120) (
  kc (ok_callV (T := TX1) dX5_fewest_23 qm_22 rfl rfl rfl hw_524 hw_525 hw_526 qp_22) (
  kc (ok_istore_n dX5_fewest_26 rfl) (
  kc (ok_iload_n dX5_fewest_27 rfl) (
  kc (ok_iconst dX5_fewest_28 (by decide)) (
  kc (ok_cm_ne dX5_fewest_29 (by decide)) (
  kc (ok_iload_n dX5_fewest_32 rfl) (
  kc (ok_retI dX5_fewest_33 rfl) (
  kc (ok_iload_n dX5_fewest_34 rfl) (
  kc (ok_iload_n dX5_fewest_35 rfl) (
  kc (ok_cm_ge dX5_fewest_36 (by decide)) (
  kc (ok_aload_n dX5_fewest_39 rfl) (
  kc (ok_get (T := TX5) (k := 4) dX5_fewest_40 rfl hin_X5 (by decide) hw_219) (
  kc (ok_get (T := TX1) (k := 2) dX5_fewest_43 rfl hin_X1 (by decide) hw_154) (
  kc (ok_iload_n dX5_fewest_46 rfl) (
  kc (ok_iaload dX5_fewest_47) (
  kc (ok_goto dX5_fewest_48 (by decide)) (
  kc (ok_bipush dX5_fewest_51 (by decide)) (
  kc (ok_retI dX5_fewest_53 rfl) (
  kn)))))))))))))))))))))))))))))))
def cd_X5_best : List (Nat × qOp) := [
  (0, oLdI 1 1),
  (1, oI (1) 2),
  (2, oCmLt 22 5),
  (5, oLdI 1 6),
  (6, oI (9) 8),
  (8, oCmGt 22 11),
  (11, oLdI 2 12),
  (12, oI (-2) 14),
  (14, oCmLt 22 17),
  (17, oLdI 2 18),
  (18, oI (2) 19),
  (19, oCmLt 24 22),
  (22, oI (-1) 23),
  (23, oRetI),
  (24, oLdA 0 25),
  (25, oGet 5 4 28),
  (28, oLdA 0 29),
  (29, oGet 5 0 32),
  (32, oGet 4 0 35),
  (35, oLdA 0 36),
  (36, oGet 5 0 39),
  (39, oGet 4 2 42),
  (42, oLdI 1 43),
  (43, oCallV 26 1 3 0 0 0 0 46),
  (46, oLdI 2 47),
  (47, oI (-2) 49),
  (49, oCmNe 60 52),
  (52, oLdA 0 53),
  (53, oGet 5 4 56),
  (56, oGet 1 4 59),
  (59, oRetI),
  (60, oLdI 2 61),
  (61, oI (-1) 62),
  (62, oCmNe 73 65),
  (65, oLdA 0 66),
  (66, oGet 5 4 69),
  (69, oGet 1 3 72),
  (72, oRetI),
  (73, oLdI 2 74),
  (74, oLdA 0 75),
  (75, oGet 5 4 78),
  (78, oGet 1 3 81),
  (81, oCmGe 96 84),
  (84, oLdA 0 85),
  (85, oGet 5 4 88),
  (88, oGet 1 2 91),
  (91, oLdI 2 92),
  (92, oALd 93),
  (93, oGoto 98),
  (96, oI (-4) 98),
  (98, oRetI)]
set_option maxRecDepth 100000 in
theorem ck_X5_best {ini : Bool} : ∀ x ∈ cd_X5_best, OpOK qMT cX5_best RX5 3 (some .int) ini 0 0 none x.1 x.2 :=
  kc (ok_iload_n dX5_best_0 rfl) (
  kc (ok_iconst dX5_best_1 (by decide)) (
  kc (ok_cm_lt dX5_best_2 (by decide)) (
  kc (ok_iload_n dX5_best_5 rfl) (
  kc (ok_bipush dX5_best_6 (by decide)) (
  kc (ok_cm_gt dX5_best_8 (by decide)) (
  kc (ok_iload_n dX5_best_11 rfl) (
  kc (ok_bipush dX5_best_12 (by decide)) (
  kc (ok_cm_lt dX5_best_14 (by decide)) (
  kc (ok_iload_n dX5_best_17 rfl) (
  kc (ok_iconst dX5_best_18 (by decide)) (
  kc (ok_cm_lt dX5_best_19 (by decide)) (
  kc (ok_iconst dX5_best_22 (by decide)) (
  kc (ok_retI dX5_best_23 rfl) (
  kc (ok_aload_n dX5_best_24 rfl) (
  kc (ok_get (T := TX5) (k := 4) dX5_best_25 rfl hin_X5 (by decide) hw_219) (
  kc (ok_aload_n dX5_best_28 rfl) (
  kc (ok_get (T := TX5) (k := 0) dX5_best_29 rfl hin_X5 (by decide) hw_215) (
  kc (ok_get (T := TX4) (k := 0) dX5_best_32 rfl hin_X4 (by decide) hw_120) (
  kc (ok_aload_n dX5_best_35 rfl) (
  kc (ok_get (T := TX5) (k := 0) dX5_best_36 rfl hin_X5 (by decide) hw_215) (
  kc (ok_get (T := TX4) (k := 2) dX5_best_39 rfl hin_X4 (by decide) hw_124) (
  kc (ok_iload_n dX5_best_42 rfl) (
  kc (ok_callV (T := TX1) dX5_best_43 qm_26 rfl rfl rfl hw_553 hw_554 hw_555 qp_26) (
  kc (ok_iload_n dX5_best_46 rfl) (
  kc (ok_bipush dX5_best_47 (by decide)) (
  kc (ok_cm_ne dX5_best_49 (by decide)) (
  kc (ok_aload_n dX5_best_52 rfl) (
  kc (ok_get (T := TX5) (k := 4) dX5_best_53 rfl hin_X5 (by decide) hw_219) (
  kc (ok_get (T := TX1) (k := 4) dX5_best_56 rfl hin_X1 (by decide) hw_158) (
  kc (ok_retI dX5_best_59 rfl) (
  kc (ok_iload_n dX5_best_60 rfl) (
  kc (ok_iconst dX5_best_61 (by decide)) (
  kc (ok_cm_ne dX5_best_62 (by decide)) (
  kc (ok_aload_n dX5_best_65 rfl) (
  kc (ok_get (T := TX5) (k := 4) dX5_best_66 rfl hin_X5 (by decide) hw_219) (
  kc (ok_get (T := TX1) (k := 3) dX5_best_69 rfl hin_X1 (by decide) hw_156) (
  kc (ok_retI dX5_best_72 rfl) (
  kc (ok_iload_n dX5_best_73 rfl) (
  kc (ok_aload_n dX5_best_74 rfl) (
  kc (ok_get (T := TX5) (k := 4) dX5_best_75 rfl hin_X5 (by decide) hw_219) (
  kc (ok_get (T := TX1) (k := 3) dX5_best_78 rfl hin_X1 (by decide) hw_156) (
  kc (ok_cm_ge dX5_best_81 (by decide)) (
  kc (ok_aload_n dX5_best_84 rfl) (
  kc (ok_get (T := TX5) (k := 4) dX5_best_85 rfl hin_X5 (by decide) hw_219) (
  kc (ok_get (T := TX1) (k := 2) dX5_best_88 rfl hin_X1 (by decide) hw_154) (
  kc (ok_iload_n dX5_best_91 rfl) (
  kc (ok_iaload dX5_best_92) (
  kc (ok_goto dX5_best_93 (by decide)) (
  kc (ok_bipush dX5_best_96 (by decide)) (
  kc (ok_retI dX5_best_98 rfl) (
  kn)))))))))))))))))))))))))))))))))))))))))))))))))))
def cd_X5_saves : List (Nat × qOp) := [
  (0, oLdI 1 1),
  (1, oCallS 92 1 0 0 0 0 4),
  (4, oIfEq 19 7),
  (7, oLdI 2 8),
  (8, oCallS 92 1 0 0 0 0 11),
  (11, oIfEq 19 14),
  (14, oLdI 1 15),
  (15, oLdI 2 16),
  (16, oCmNe 22 19),
  (19, oI (-100001) 21),
  (21, oRetI),
  (22, oLdA 0 23),
  (23, oGet 5 3 26),
  (26, oLdA 0 27),
  (27, oGet 5 0 30),
  (30, oGet 4 0 33),
  (33, oCallV 1 0 1 0 0 0 0 36),
  (36, oLdA 0 37),
  (37, oGet 5 3 40),
  (40, oLdI 1 41),
  (41, oLdI 2 42),
  (42, oCallV 10 0 2 0 0 0 0 45),
  (45, oPop 46),
  (46, oLdA 0 47),
  (47, oGet 5 0 50),
  (50, oGet 4 0 53),
  (53, oLdA 0 54),
  (54, oGet 5 0 57),
  (57, oGet 4 2 60),
  (60, oCallV 14 0 1 0 0 0 0 63),
  (63, oLdA 0 64),
  (64, oGet 5 3 67),
  (67, oLdA 0 68),
  (68, oGet 5 0 71),
  (71, oGet 4 2 74),
  (74, oCallV 14 0 1 0 0 0 0 77),
  (77, oBin (fun x y => x - y) 78),
  (78, oRetI)]
set_option maxRecDepth 100000 in
theorem ck_X5_saves {ini : Bool} : ∀ x ∈ cd_X5_saves, OpOK qMT cX5_saves RX5 3 (some .int) ini 0 0 none x.1 x.2 :=
  kc (ok_iload_n dX5_saves_0 rfl) (
  kc (ok_callS dX5_saves_1 qm_92 rfl rfl hw_241 hw_242 qp_92) (
  kc (ok_if_eq dX5_saves_4 (by decide)) (
  kc (ok_iload_n dX5_saves_7 rfl) (
  kc (ok_callS dX5_saves_8 qm_92 rfl rfl hw_241 hw_242 qp_92) (
  kc (ok_if_eq dX5_saves_11 (by decide)) (
  kc (ok_iload_n dX5_saves_14 rfl) (
  kc (ok_iload_n dX5_saves_15 rfl) (
  kc (ok_cm_ne dX5_saves_16 (by decide)) (
  kc (ok_ldc dX5_saves_19 hw_325) (
  kc (ok_retI dX5_saves_21 rfl) (
  kc (ok_aload_n dX5_saves_22 rfl) (
  kc (ok_get (T := TX5) (k := 3) dX5_saves_23 rfl hin_X5 (by decide) hw_218) (
  kc (ok_aload_n dX5_saves_26 rfl) (
  kc (ok_get (T := TX5) (k := 0) dX5_saves_27 rfl hin_X5 (by decide) hw_215) (
  kc (ok_get (T := TX4) (k := 0) dX5_saves_30 rfl hin_X4 (by decide) hw_120) (
  kc (ok_callV (T := TX0) dX5_saves_33 qm_1 rfl rfl rfl hw_466 hw_467 hw_468 qp_1) (
  kc (ok_aload_n dX5_saves_36 rfl) (
  kc (ok_get (T := TX5) (k := 3) dX5_saves_37 rfl hin_X5 (by decide) hw_218) (
  kc (ok_iload_n dX5_saves_40 rfl) (
  kc (ok_iload_n dX5_saves_41 rfl) (
  kc (ok_callV (T := TX0) dX5_saves_42 qm_10 rfl rfl rfl hw_440 hw_441 hw_442 qp_10) (
  kc (ok_pop dX5_saves_45) (
  kc (ok_aload_n dX5_saves_46 rfl) (
  kc (ok_get (T := TX5) (k := 0) dX5_saves_47 rfl hin_X5 (by decide) hw_215) (
  kc (ok_get (T := TX4) (k := 0) dX5_saves_50 rfl hin_X4 (by decide) hw_120) (
  kc (ok_aload_n dX5_saves_53 rfl) (
  kc (ok_get (T := TX5) (k := 0) dX5_saves_54 rfl hin_X5 (by decide) hw_215) (
  kc (ok_get (T := TX4) (k := 2) dX5_saves_57 rfl hin_X4 (by decide) hw_124) (
  kc (ok_callV (T := TX0) dX5_saves_60 qm_14 rfl rfl rfl hw_392 hw_393 hw_394 qp_14) (
  kc (ok_aload_n dX5_saves_63 rfl) (
  kc (ok_get (T := TX5) (k := 3) dX5_saves_64 rfl hin_X5 (by decide) hw_218) (
  kc (ok_aload_n dX5_saves_67 rfl) (
  kc (ok_get (T := TX5) (k := 0) dX5_saves_68 rfl hin_X5 (by decide) hw_215) (
  kc (ok_get (T := TX4) (k := 2) dX5_saves_71 rfl hin_X4 (by decide) hw_124) (
  kc (ok_callV (T := TX0) dX5_saves_74 qm_14 rfl rfl rfl hw_392 hw_393 hw_394 qp_14) (
  kc (ok_isub dX5_saves_77) (
  kc (ok_retI dX5_saves_78 rfl) (
  kn))))))))))))))))))))))))))))))))))))))
def cd_X5_match : List (Nat × qOp) := [
  (0, oI (1) 1),
  (1, oStI 1 2),
  (2, oLdA 0 3),
  (3, oI (0) 4),
  (4, oI (1) 5),
  (5, oCallV 80 5 2 0 0 0 0 8),
  (8, oStI 2 9),
  (9, oI (0) 10),
  (10, oStI 3 11),
  (11, oLdI 3 12),
  (12, oI (6) 14),
  (14, oCmGe 67 17),
  (17, oLdI 3 18),
  (18, oI (1) 19),
  (19, oBin (fun x y => x + y) 20),
  (20, oStI 4 22),
  (22, oLdI 4 24),
  (24, oI (6) 26),
  (26, oCmGe 61 29),
  (29, oLdA 0 30),
  (30, oLdI 3 31),
  (31, oLdI 4 33),
  (33, oCallV 80 5 2 0 0 0 0 36),
  (36, oStI 5 38),
  (38, oLdI 5 40),
  (40, oLdI 2 41),
  (41, oCmLe 55 44),
  (44, oLdI 5 46),
  (46, oStI 2 47),
  (47, oI (10) 49),
  (49, oLdI 3 50),
  (50, oBin (fun x y => x * y) 51),
  (51, oLdI 4 53),
  (53, oBin (fun x y => x + y) 54),
  (54, oStI 1 55),
  (55, oInc 4 (1) 58),
  (58, oGoto 22),
  (61, oInc 3 (1) 64),
  (64, oGoto 11),
  (67, oLdI 1 68),
  (68, oRetI)]
set_option maxRecDepth 100000 in
theorem ck_X5_match {ini : Bool} : ∀ x ∈ cd_X5_match, OpOK qMT cX5_match RX5 6 (some .int) ini 0 0 none x.1 x.2 :=
  kc (ok_iconst dX5_match_0 (by decide)) (
  kc (ok_istore_n dX5_match_1 rfl) (
  kc (ok_aload_n dX5_match_2 rfl) (
  kc (ok_iconst dX5_match_3 (by decide)) (
  kc (ok_iconst dX5_match_4 (by decide)) (
  kc (ok_callV (T := TX5) dX5_match_5 qm_80 rfl rfl rfl hw_577 hw_570 hw_571 qp_80) (
  kc (ok_istore_n dX5_match_8 rfl) (
  kc (ok_iconst dX5_match_9 (by decide)) (
  kc (ok_istore_n dX5_match_10 rfl) (
  kc (ok_iload_n dX5_match_11 rfl) (
  kc (ok_bipush dX5_match_12 (by decide)) (
  kc (ok_cm_ge dX5_match_14 (by decide)) (
  kc (ok_iload_n dX5_match_17 rfl) (
  kc (ok_iconst dX5_match_18 (by decide)) (
  kc (ok_iadd dX5_match_19) (
  kc (ok_istore dX5_match_20) (
  kc (ok_iload dX5_match_22) (
  kc (ok_bipush dX5_match_24 (by decide)) (
  kc (ok_cm_ge dX5_match_26 (by decide)) (
  kc (ok_aload_n dX5_match_29 rfl) (
  kc (ok_iload_n dX5_match_30 rfl) (
  kc (ok_iload dX5_match_31) (
  kc (ok_callV (T := TX5) dX5_match_33 qm_80 rfl rfl rfl hw_577 hw_570 hw_571 qp_80) (
  kc (ok_istore dX5_match_36) (
  kc (ok_iload dX5_match_38) (
  kc (ok_iload_n dX5_match_40 rfl) (
  kc (ok_cm_le dX5_match_41 (by decide)) (
  kc (ok_iload dX5_match_44) (
  kc (ok_istore_n dX5_match_46 rfl) (
  kc (ok_bipush dX5_match_47 (by decide)) (
  kc (ok_iload_n dX5_match_49 rfl) (
  kc (ok_imul dX5_match_50) (
  kc (ok_iload dX5_match_51) (
  kc (ok_iadd dX5_match_53) (
  kc (ok_istore_n dX5_match_54 rfl) (
  kc (ok_iinc dX5_match_55 (by decide)) (
  kc (ok_goto dX5_match_58 (by decide)) (
  kc (ok_iinc dX5_match_61 (by decide)) (
  kc (ok_goto dX5_match_64 (by decide)) (
  kc (ok_iload_n dX5_match_67 rfl) (
  kc (ok_retI dX5_match_68 rfl) (
  kn)))))))))))))))))))))))))))))))))))))))))
def cd_X5_against : List (Nat × qOp) := [
  (0, oLdA 0 1),
  (1, oLdI 1 2),
  (2, oCallV 95 5 1 0 0 0 0 5),
  (5, oIfEq 22 8),
  (8, oLdI 2 9),
  (9, oCallS 92 1 0 0 0 0 12),
  (12, oIfEq 22 15),
  (15, oLdI 3 16),
  (16, oCallS 92 1 0 0 0 0 19),
  (19, oIfNe 25 22),
  (22, oI (-100001) 24),
  (24, oRetI),
  (25, oLdA 0 26),
  (26, oGet 5 0 29),
  (29, oGet 4 0 32),
  (32, oGet 0 1 35),
  (35, oLdI 1 36),
  (36, oALd 37),
  (37, oStI 4 39),
  (39, oLdI 3 40),
  (40, oLdI 4 42),
  (42, oCmEq 50 45),
  (45, oLdI 3 46),
  (46, oLdI 2 47),
  (47, oCmNe 53 50),
  (50, oI (-100001) 52),
  (52, oRetI),
  (53, oLdI 4 55),
  (55, oLdI 2 56),
  (56, oCmNe 62 59),
  (59, oI (-100002) 61),
  (61, oRetI),
  (62, oLdA 0 63),
  (63, oLdI 1 64),
  (64, oLdI 2 65),
  (65, oCallV 98 5 2 0 0 0 0 68),
  (68, oLdA 0 69),
  (69, oLdI 3 70),
  (70, oCallV 99 5 1 0 0 0 0 73),
  (73, oUn (fun x => -x) 74),
  (74, oRetI)]
set_option maxRecDepth 100000 in
theorem ck_X5_against {ini : Bool} : ∀ x ∈ cd_X5_against, OpOK qMT cX5_against RX5 5 (some .int) ini 0 0 none x.1 x.2 :=
  kc (ok_aload_n dX5_against_0 rfl) (
  kc (ok_iload_n dX5_against_1 rfl) (
  kc (ok_callV (T := TX5) dX5_against_2 qm_95 rfl rfl rfl hw_282 hw_284 hw_0 qp_95) (
  kc (ok_if_eq dX5_against_5 (by decide)) (
  kc (ok_iload_n dX5_against_8 rfl) (
  kc (ok_callS dX5_against_9 qm_92 rfl rfl hw_241 hw_242 qp_92) (
  kc (ok_if_eq dX5_against_12 (by decide)) (
  kc (ok_iload_n dX5_against_15 rfl) (
  kc (ok_callS dX5_against_16 qm_92 rfl rfl hw_241 hw_242 qp_92) (
  kc (ok_if_ne dX5_against_19 (by decide)) (
  kc (ok_ldc dX5_against_22 hw_325) (
  kc (ok_retI dX5_against_24 rfl) (
  kc (ok_aload_n dX5_against_25 rfl) (
  kc (ok_get (T := TX5) (k := 0) dX5_against_26 rfl hin_X5 (by decide) hw_215) (
  kc (ok_get (T := TX4) (k := 0) dX5_against_29 rfl hin_X4 (by decide) hw_120) (
  kc (ok_get (T := TX0) (k := 1) dX5_against_32 rfl hin_X0 (by decide) hw_87) (
  kc (ok_iload_n dX5_against_35 rfl) (
  kc (ok_iaload dX5_against_36) (
  kc (ok_istore dX5_against_37) (
  kc (ok_iload_n dX5_against_39 rfl) (
  kc (ok_iload dX5_against_40) (
  kc (ok_cm_eq dX5_against_42 (by decide)) (
  kc (ok_iload_n dX5_against_45 rfl) (
  kc (ok_iload_n dX5_against_46 rfl) (
  kc (ok_cm_ne dX5_against_47 (by decide)) (
  kc (ok_ldc dX5_against_50 hw_325) (
  kc (ok_retI dX5_against_52 rfl) (
  kc (ok_iload dX5_against_53) (
  kc (ok_iload_n dX5_against_55 rfl) (
  kc (ok_cm_ne dX5_against_56 (by decide)) (
  kc (ok_ldc dX5_against_59 hw_461) (
  kc (ok_retI dX5_against_61 rfl) (
  kc (ok_aload_n dX5_against_62 rfl) (
  kc (ok_iload_n dX5_against_63 rfl) (
  kc (ok_iload_n dX5_against_64 rfl) (
  kc (ok_callV (T := TX5) dX5_against_65 qm_98 rfl rfl rfl hw_462 hw_464 hw_8 qp_98) (
  kc (ok_aload_n dX5_against_68 rfl) (
  kc (ok_iload_n dX5_against_69 rfl) (
  kc (ok_callV (T := TX5) dX5_against_70 qm_99 rfl rfl rfl hw_471 hw_473 hw_9 qp_99) (
  kc (ok_ineg dX5_against_73) (
  kc (ok_retI dX5_against_74 rfl) (
  kn)))))))))))))))))))))))))))))))))))))))))
def cd_X5_pays : List (Nat × qOp) := [
  (0, oLdA 0 1),
  (1, oLdI 1 2),
  (2, oCallV 95 5 1 0 0 0 0 5),
  (5, oIfEq 25 8),
  (8, oLdI 2 9),
  (9, oCallS 92 1 0 0 0 0 12),
  (12, oIfEq 25 15),
  (15, oLdI 3 16),
  (16, oI (999) 19),
  (19, oCallS 91 2 0 0 0 0 22),
  (22, oIfNe 28 25),
  (25, oI (-100001) 27),
  (27, oRetI),
  (28, oLdI 4 30),
  (30, oI (1) 31),
  (31, oCmLt 51 34),
  (34, oLdI 4 36),
  (36, oI (9) 38),
  (38, oCmGt 51 41),
  (41, oLdI 5 43),
  (43, oI (16) 45),
  (45, oCallS 91 2 0 0 0 0 48),
  (48, oIfNe 54 51),
  (51, oI (-100001) 53),
  (53, oRetI),
  (54, oLdA 0 55),
  (55, oGet 5 0 58),
  (58, oGet 4 0 61),
  (61, oGet 0 1 64),
  (64, oLdI 1 65),
  (65, oALd 66),
  (66, oLdI 2 67),
  (67, oCmNe 73 70),
  (70, oI (-100002) 72),
  (72, oRetI),
  (73, oLdA 0 74),
  (74, oLdI 1 75),
  (75, oLdI 2 76),
  (76, oCallV 98 5 2 0 0 0 0 79),
  (79, oLdA 0 80),
  (80, oGet 5 3 83),
  (83, oLdI 2 84),
  (84, oCallV 13 0 1 0 0 0 0 87),
  (87, oLdA 0 88),
  (88, oGet 5 0 91),
  (91, oGet 4 0 94),
  (94, oLdI 2 95),
  (95, oCallV 13 0 1 0 0 0 0 98),
  (98, oBin (fun x y => x - y) 99),
  (99, oStI 6 101),
  (101, oLdI 4 103),
  (103, oLdA 0 104),
  (104, oGet 5 0 107),
  (107, oGet 4 2 110),
  (110, oLdI 2 111),
  (111, oALd 112),
  (112, oBin (fun x y => x * y) 113),
  (113, oStI 7 115),
  (115, oLdA 0 116),
  (116, oGet 5 0 119),
  (119, oGet 4 3 122),
  (122, oLdI 1 123),
  (123, oI (6) 125),
  (125, oBin (fun x y => x * y) 126),
  (126, oLdI 2 127),
  (127, oBin (fun x y => x + y) 128),
  (128, oALd 129),
  (129, oLdI 3 130),
  (130, oBin (fun x y => x - y) 131),
  (131, oStI 8 133),
  (133, oI (16) 135),
  (135, oLdI 8 137),
  (137, oBin (fun x y => x * y) 138),
  (138, oI (16) 140),
  (140, oLdI 7 142),
  (142, oBin (fun x y => x * y) 143),
  (143, oLdI 6 145),
  (145, oBin (fun x y => x * y) 146),
  (146, oBin (fun x y => x - y) 147),
  (147, oLdI 5 149),
  (149, oLdI 7 151),
  (151, oBin (fun x y => x * y) 152),
  (152, oBin (fun x y => x - y) 153),
  (153, oRetI)]
set_option maxRecDepth 100000 in
theorem ck_X5_pays {ini : Bool} : ∀ x ∈ cd_X5_pays, OpOK qMT cX5_pays RX5 9 (some .int) ini 0 0 none x.1 x.2 :=
  kc (ok_aload_n dX5_pays_0 rfl) (
  kc (ok_iload_n dX5_pays_1 rfl) (
  kc (ok_callV (T := TX5) dX5_pays_2 qm_95 rfl rfl rfl hw_282 hw_284 hw_0 qp_95) (
  kc (ok_if_eq dX5_pays_5 (by decide)) (
  kc (ok_iload_n dX5_pays_8 rfl) (
  kc (ok_callS dX5_pays_9 qm_92 rfl rfl hw_241 hw_242 qp_92) (
  kc (ok_if_eq dX5_pays_12 (by decide)) (
  kc (ok_iload_n dX5_pays_15 rfl) (
  kc (ok_sipush dX5_pays_16 (by decide)) (
  kc (ok_callS dX5_pays_19 qm_91 rfl rfl hw_244 hw_245 qp_91) (
  kc (ok_if_ne dX5_pays_22 (by decide)) (
  kc (ok_ldc dX5_pays_25 hw_325) (
  kc (ok_retI dX5_pays_27 rfl) (
  kc (ok_iload dX5_pays_28) (
  kc (ok_iconst dX5_pays_30 (by decide)) (
  kc (ok_cm_lt dX5_pays_31 (by decide)) (
  kc (ok_iload dX5_pays_34) (
  kc (ok_bipush dX5_pays_36 (by decide)) (
  kc (ok_cm_gt dX5_pays_38 (by decide)) (
  kc (ok_iload dX5_pays_41) (
  kc (ok_bipush dX5_pays_43 (by decide)) (
  kc (ok_callS dX5_pays_45 qm_91 rfl rfl hw_244 hw_245 qp_91) (
  kc (ok_if_ne dX5_pays_48 (by decide)) (
  kc (ok_ldc dX5_pays_51 hw_325) (
  kc (ok_retI dX5_pays_53 rfl) (
  kc (ok_aload_n dX5_pays_54 rfl) (
  kc (ok_get (T := TX5) (k := 0) dX5_pays_55 rfl hin_X5 (by decide) hw_215) (
  kc (ok_get (T := TX4) (k := 0) dX5_pays_58 rfl hin_X4 (by decide) hw_120) (
  kc (ok_get (T := TX0) (k := 1) dX5_pays_61 rfl hin_X0 (by decide) hw_87) (
  kc (ok_iload_n dX5_pays_64 rfl) (
  kc (ok_iaload dX5_pays_65) (
  kc (ok_iload_n dX5_pays_66 rfl) (
  kc (ok_cm_ne dX5_pays_67 (by decide)) (
  kc (ok_ldc dX5_pays_70 hw_461) (
  kc (ok_retI dX5_pays_72 rfl) (
  kc (ok_aload_n dX5_pays_73 rfl) (
  kc (ok_iload_n dX5_pays_74 rfl) (
  kc (ok_iload_n dX5_pays_75 rfl) (
  kc (ok_callV (T := TX5) dX5_pays_76 qm_98 rfl rfl rfl hw_462 hw_464 hw_8 qp_98) (
  kc (ok_aload_n dX5_pays_79 rfl) (
  kc (ok_get (T := TX5) (k := 3) dX5_pays_80 rfl hin_X5 (by decide) hw_218) (
  kc (ok_iload_n dX5_pays_83 rfl) (
  kc (ok_callV (T := TX0) dX5_pays_84 qm_13 rfl rfl rfl hw_586 hw_322 hw_323 qp_13) (
  kc (ok_aload_n dX5_pays_87 rfl) (
  kc (ok_get (T := TX5) (k := 0) dX5_pays_88 rfl hin_X5 (by decide) hw_215) (
  kc (ok_get (T := TX4) (k := 0) dX5_pays_91 rfl hin_X4 (by decide) hw_120) (
  kc (ok_iload_n dX5_pays_94 rfl) (
  kc (ok_callV (T := TX0) dX5_pays_95 qm_13 rfl rfl rfl hw_586 hw_322 hw_323 qp_13) (
  kc (ok_isub dX5_pays_98) (
  kc (ok_istore dX5_pays_99) (
  kc (ok_iload dX5_pays_101) (
  kc (ok_aload_n dX5_pays_103 rfl) (
  kc (ok_get (T := TX5) (k := 0) dX5_pays_104 rfl hin_X5 (by decide) hw_215) (
  kc (ok_get (T := TX4) (k := 2) dX5_pays_107 rfl hin_X4 (by decide) hw_124) (
  kc (ok_iload_n dX5_pays_110 rfl) (
  kc (ok_iaload dX5_pays_111) (
  kc (ok_imul dX5_pays_112) (
  kc (ok_istore dX5_pays_113) (
  kc (ok_aload_n dX5_pays_115 rfl) (
  kc (ok_get (T := TX5) (k := 0) dX5_pays_116 rfl hin_X5 (by decide) hw_215) (
  kc (ok_get (T := TX4) (k := 3) dX5_pays_119 rfl hin_X4 (by decide) hw_126) (
  kc (ok_iload_n dX5_pays_122 rfl) (
  kc (ok_bipush dX5_pays_123 (by decide)) (
  kc (ok_imul dX5_pays_125) (
  kc (ok_iload_n dX5_pays_126 rfl) (
  kc (ok_iadd dX5_pays_127) (
  kc (ok_iaload dX5_pays_128) (
  kc (ok_iload_n dX5_pays_129 rfl) (
  kc (ok_isub dX5_pays_130) (
  kc (ok_istore dX5_pays_131) (
  kc (ok_bipush dX5_pays_133 (by decide)) (
  kc (ok_iload dX5_pays_135) (
  kc (ok_imul dX5_pays_137) (
  kc (ok_bipush dX5_pays_138 (by decide)) (
  kc (ok_iload dX5_pays_140) (
  kc (ok_imul dX5_pays_142) (
  kc (ok_iload dX5_pays_143) (
  kc (ok_imul dX5_pays_145) (
  kc (ok_isub dX5_pays_146) (
  kc (ok_iload dX5_pays_147) (
  kc (ok_iload dX5_pays_149) (
  kc (ok_imul dX5_pays_151) (
  kc (ok_isub dX5_pays_152) (
  kc (ok_retI dX5_pays_153 rfl) (
  kn))))))))))))))))))))))))))))))))))))))))))))))))))))))))))))))))))))))))))))))))))))
def cd_X5_image : List (Nat × qOp) := [
  (0, oLdA 0 1),
  (1, oGet 5 1 4),
  (4, oLdA 0 5),
  (5, oGet 5 0 8),
  (8, oCallV 48 4 1 0 0 0 0 11),
  (11, oLdA 0 12),
  (12, oI (1) 13),
  (13, oPutZ 5 2 16),
  (16, oI (1) 17),
  (17, oRetI)]
set_option maxRecDepth 100000 in
theorem ck_X5_image {ini : Bool} : ∀ x ∈ cd_X5_image, OpOK qMT cX5_image RX5 1 (some .int) ini 0 0 none x.1 x.2 :=
  kc (ok_aload_n dX5_image_0 rfl) (
  kc (ok_get (T := TX5) (k := 1) dX5_image_1 rfl hin_X5 (by decide) hw_216) (
  kc (ok_aload_n dX5_image_4 rfl) (
  kc (ok_get (T := TX5) (k := 0) dX5_image_5 rfl hin_X5 (by decide) hw_215) (
  kc (ok_callV (T := TX4) dX5_image_8 qm_48 rfl rfl rfl hw_591 hw_592 hw_593 qp_48) (
  kc (ok_aload_n dX5_image_11 rfl) (
  kc (ok_iconst dX5_image_12 (by decide)) (
  kc (ok_putZ (T := TX5) (k := 2) dX5_image_13 rfl hin_X5 tyX5_ok nmX5 (by decide) hw_217 rfl (tyX5_ok 2 (by decide))) (
  kc (ok_iconst dX5_image_16 (by decide)) (
  kc (ok_retI dX5_image_17 rfl) (
  kn))))))))))
def cd_X5_restore : List (Nat × qOp) := [
  (0, oLdA 0 1),
  (1, oGet 5 2 4),
  (4, oIfNe 10 7),
  (7, oI (-4) 9),
  (9, oRetI),
  (10, oLdA 0 11),
  (11, oGet 5 0 14),
  (14, oLdA 0 15),
  (15, oGet 5 1 18),
  (18, oCallV 48 4 1 0 0 0 0 21),
  (21, oI (1) 22),
  (22, oRetI)]
set_option maxRecDepth 100000 in
theorem ck_X5_restore {ini : Bool} : ∀ x ∈ cd_X5_restore, OpOK qMT cX5_restore RX5 1 (some .int) ini 0 0 none x.1 x.2 :=
  kc (ok_aload_n dX5_restore_0 rfl) (
  kc (ok_get (T := TX5) (k := 2) dX5_restore_1 rfl hin_X5 (by decide) hw_217) (
  kc (ok_if_ne dX5_restore_4 (by decide)) (
  kc (ok_bipush dX5_restore_7 (by decide)) (
  kc (ok_retI dX5_restore_9 rfl) (
  kc (ok_aload_n dX5_restore_10 rfl) (
  kc (ok_get (T := TX5) (k := 0) dX5_restore_11 rfl hin_X5 (by decide) hw_215) (
  kc (ok_aload_n dX5_restore_14 rfl) (
  kc (ok_get (T := TX5) (k := 1) dX5_restore_15 rfl hin_X5 (by decide) hw_216) (
  kc (ok_callV (T := TX4) dX5_restore_18 qm_48 rfl rfl rfl hw_591 hw_592 hw_593 qp_48) (
  kc (ok_iconst dX5_restore_21 (by decide)) (
  kc (ok_retI dX5_restore_22 rfl) (
  kn))))))))))))
def cd_X5_deal : List (Nat × qOp) := [
  (0, oLdI 1 1),
  (1, oCallS 93 1 0 0 0 0 4),
  (4, oIfEq 27 7),
  (7, oLdI 2 8),
  (8, oCallS 94 1 0 0 0 0 11),
  (11, oIfEq 27 14),
  (14, oLdI 4 16),
  (16, oI (1) 17),
  (17, oCmLt 27 20),
  (20, oLdI 4 22),
  (22, oI (8) 24),
  (24, oCmLe 29 27),
  (27, oI (-1) 28),
  (28, oRetI),
  (29, oLdA 0 30),
  (30, oGet 5 6 33),
  (33, oLdI 1 34),
  (34, oAALd 35),
  (35, oStA 5 37),
  (37, oLdA 5 39),
  (39, oLdI 2 40),
  (40, oCallV 33 2 1 0 0 0 0 43),
  (43, oStI 6 45),
  (45, oLdI 6 47),
  (47, oIfEq 53 50),
  (50, oLdI 6 52),
  (52, oRetI),
  (53, oLdA 5 55),
  (55, oLdI 3 56),
  (56, oI (3) 57),
  (57, oLdI 4 59),
  (59, oBin (fun x y => x * y) 60),
  (60, oCallV 34 2 2 0 0 0 0 63),
  (63, oIfNe 69 66),
  (66, oI (-13) 68),
  (68, oRetI),
  (69, oI (0) 70),
  (70, oStI 7 72),
  (72, oLdI 7 74),
  (74, oLdI 4 76),
  (76, oCmGe 100 79),
  (79, oLdA 0 80),
  (80, oLdA 5 82),
  (82, oLdI 3 83),
  (83, oI (3) 84),
  (84, oLdI 7 86),
  (86, oBin (fun x y => x * y) 87),
  (87, oBin (fun x y => x + y) 88),
  (88, oCallV 101 5 2 0 0 0 0 91),
  (91, oIfEq 100 94),
  (94, oInc 7 (1) 97),
  (97, oGoto 72),
  (100, oLdI 7 102),
  (102, oRetI)]
set_option maxRecDepth 100000 in
theorem ck_X5_deal {ini : Bool} : ∀ x ∈ cd_X5_deal, OpOK qMT cX5_deal RX5 8 (some .int) ini 0 0 none x.1 x.2 :=
  kc (ok_iload_n dX5_deal_0 rfl) (
  kc (ok_callS dX5_deal_1 qm_93 rfl rfl hw_604 hw_605 qp_93) (
  kc (ok_if_eq dX5_deal_4 (by decide)) (
  kc (ok_iload_n dX5_deal_7 rfl) (
  kc (ok_callS dX5_deal_8 qm_94 rfl rfl hw_607 hw_608 qp_94) (
  kc (ok_if_eq dX5_deal_11 (by decide)) (
  kc (ok_iload dX5_deal_14) (
  kc (ok_iconst dX5_deal_16 (by decide)) (
  kc (ok_cm_lt dX5_deal_17 (by decide)) (
  kc (ok_iload dX5_deal_20) (
  kc (ok_bipush dX5_deal_22 (by decide)) (
  kc (ok_cm_le dX5_deal_24 (by decide)) (
  kc (ok_iconst dX5_deal_27 (by decide)) (
  kc (ok_retI dX5_deal_28 rfl) (
  kc (ok_aload_n dX5_deal_29 rfl) (
  kc (ok_get (T := TX5) (k := 6) dX5_deal_30 rfl hin_X5 (by decide) hw_221) (
  kc (ok_iload_n dX5_deal_33 rfl) (
  kc (ok_aaload dX5_deal_34) (
  kc (ok_astore dX5_deal_35) (
  kc (ok_aload dX5_deal_37) (
  kc (ok_iload_n dX5_deal_39 rfl) (
  kc (ok_callV (T := TX2) dX5_deal_40 qm_33 rfl rfl rfl hw_610 hw_611 hw_612 qp_33) (
  kc (ok_istore dX5_deal_43) (
  kc (ok_iload dX5_deal_45) (
  kc (ok_if_eq dX5_deal_47 (by decide)) (
  kc (ok_iload dX5_deal_50) (
  kc (ok_retI dX5_deal_52 rfl) (
  kc (ok_aload dX5_deal_53) (
  kc (ok_iload_n dX5_deal_55 rfl) (
  kc (ok_iconst dX5_deal_56 (by decide)) (
  kc (ok_iload dX5_deal_57) (
  kc (ok_imul dX5_deal_59) (
  kc (ok_callV (T := TX2) dX5_deal_60 qm_34 rfl rfl rfl hw_614 hw_615 hw_616 qp_34) (
  kc (ok_if_ne dX5_deal_63 (by decide)) (
  kc (ok_bipush dX5_deal_66 (by decide)) (
  kc (ok_retI dX5_deal_68 rfl) (
  kc (ok_iconst dX5_deal_69 (by decide)) (
  kc (ok_istore dX5_deal_70) (
  kc (ok_iload dX5_deal_72) (
  kc (ok_iload dX5_deal_74) (
  kc (ok_cm_ge dX5_deal_76 (by decide)) (
  kc (ok_aload_n dX5_deal_79 rfl) (
  kc (ok_aload dX5_deal_80) (
  kc (ok_iload_n dX5_deal_82 rfl) (
  kc (ok_iconst dX5_deal_83 (by decide)) (
  kc (ok_iload dX5_deal_84) (
  kc (ok_imul dX5_deal_86) (
  kc (ok_iadd dX5_deal_87) (
  kc (ok_callV (T := TX5) dX5_deal_88 qm_101 rfl rfl rfl hw_618 hw_620 hw_17 qp_101) (
  kc (ok_if_eq dX5_deal_91 (by decide)) (
  kc (ok_iinc dX5_deal_94 (by decide)) (
  kc (ok_goto dX5_deal_97 (by decide)) (
  kc (ok_iload dX5_deal_100) (
  kc (ok_retI dX5_deal_102 rfl) (
  kn))))))))))))))))))))))))))))))))))))))))))))))))))))))
def cd_X5_sheet : List (Nat × qOp) := [
  (0, oLdI 1 1),
  (1, oCallS 93 1 0 0 0 0 4),
  (4, oIfEq 20 7),
  (7, oLdI 2 8),
  (8, oCallS 94 1 0 0 0 0 11),
  (11, oIfEq 20 14),
  (14, oLdI 3 15),
  (15, oI (24) 17),
  (17, oCmLe 22 20),
  (20, oI (-1) 21),
  (21, oRetI),
  (22, oLdI 3 23),
  (23, oIfGe 29 26),
  (26, oI (-14) 28),
  (28, oRetI),
  (29, oLdA 0 30),
  (30, oGet 5 6 33),
  (33, oLdI 1 34),
  (34, oAALd 35),
  (35, oLdI 2 36),
  (36, oLdI 3 37),
  (37, oCallV 32 2 2 0 0 0 0 40),
  (40, oLdI 3 41),
  (41, oRetI)]
set_option maxRecDepth 100000 in
theorem ck_X5_sheet {ini : Bool} : ∀ x ∈ cd_X5_sheet, OpOK qMT cX5_sheet RX5 4 (some .int) ini 0 0 none x.1 x.2 :=
  kc (ok_iload_n dX5_sheet_0 rfl) (
  kc (ok_callS dX5_sheet_1 qm_93 rfl rfl hw_604 hw_605 qp_93) (
  kc (ok_if_eq dX5_sheet_4 (by decide)) (
  kc (ok_iload_n dX5_sheet_7 rfl) (
  kc (ok_callS dX5_sheet_8 qm_94 rfl rfl hw_607 hw_608 qp_94) (
  kc (ok_if_eq dX5_sheet_11 (by decide)) (
  kc (ok_iload_n dX5_sheet_14 rfl) (
  kc (ok_bipush dX5_sheet_15 (by decide)) (
  kc (ok_cm_le dX5_sheet_17 (by decide)) (
  kc (ok_iconst dX5_sheet_20 (by decide)) (
  kc (ok_retI dX5_sheet_21 rfl) (
  kc (ok_iload_n dX5_sheet_22 rfl) (
  kc (ok_if_ge dX5_sheet_23 (by decide)) (
  kc (ok_bipush dX5_sheet_26 (by decide)) (
  kc (ok_retI dX5_sheet_28 rfl) (
  kc (ok_aload_n dX5_sheet_29 rfl) (
  kc (ok_get (T := TX5) (k := 6) dX5_sheet_30 rfl hin_X5 (by decide) hw_221) (
  kc (ok_iload_n dX5_sheet_33 rfl) (
  kc (ok_aaload dX5_sheet_34) (
  kc (ok_iload_n dX5_sheet_35 rfl) (
  kc (ok_iload_n dX5_sheet_36 rfl) (
  kc (ok_callV (T := TX2) dX5_sheet_37 qm_32 rfl rfl rfl hw_627 hw_628 hw_629 qp_32) (
  kc (ok_iload_n dX5_sheet_40 rfl) (
  kc (ok_retI dX5_sheet_41 rfl) (
  kn))))))))))))))))))))))))
def cd_X5_drop : List (Nat × qOp) := [
  (0, oLdI 1 1),
  (1, oCallS 93 1 0 0 0 0 4),
  (4, oIfNe 9 7),
  (7, oI (-1) 8),
  (8, oRetI),
  (9, oLdA 0 10),
  (10, oGet 5 6 13),
  (13, oLdI 1 14),
  (14, oAALd 15),
  (15, oStA 2 16),
  (16, oLdA 2 17),
  (17, oGet 2 1 20),
  (20, oIfEq 26 23),
  (23, oI (-11) 25),
  (25, oRetI),
  (26, oLdA 2 27),
  (27, oI (1) 28),
  (28, oPutZ 2 1 31),
  (31, oLdA 2 32),
  (32, oGet 2 3 35),
  (35, oRetI)]
set_option maxRecDepth 100000 in
theorem ck_X5_drop {ini : Bool} : ∀ x ∈ cd_X5_drop, OpOK qMT cX5_drop RX5 3 (some .int) ini 0 0 none x.1 x.2 :=
  kc (ok_iload_n dX5_drop_0 rfl) (
  kc (ok_callS dX5_drop_1 qm_93 rfl rfl hw_604 hw_605 qp_93) (
  kc (ok_if_ne dX5_drop_4 (by decide)) (
  kc (ok_iconst dX5_drop_7 (by decide)) (
  kc (ok_retI dX5_drop_8 rfl) (
  kc (ok_aload_n dX5_drop_9 rfl) (
  kc (ok_get (T := TX5) (k := 6) dX5_drop_10 rfl hin_X5 (by decide) hw_221) (
  kc (ok_iload_n dX5_drop_13 rfl) (
  kc (ok_aaload dX5_drop_14) (
  kc (ok_astore_n dX5_drop_15 rfl) (
  kc (ok_aload_n dX5_drop_16 rfl) (
  kc (ok_get (T := TX2) (k := 1) dX5_drop_17 rfl hin_X2 (by decide) hw_201) (
  kc (ok_if_eq dX5_drop_20 (by decide)) (
  kc (ok_bipush dX5_drop_23 (by decide)) (
  kc (ok_retI dX5_drop_25 rfl) (
  kc (ok_aload_n dX5_drop_26 rfl) (
  kc (ok_iconst dX5_drop_27 (by decide)) (
  kc (ok_putZ (T := TX2) (k := 1) dX5_drop_28 rfl hin_X2 tyX2_ok nmX2 (by decide) hw_201 rfl (tyX2_ok 1 (by decide))) (
  kc (ok_aload_n dX5_drop_31 rfl) (
  kc (ok_get (T := TX2) (k := 3) dX5_drop_32 rfl hin_X2 (by decide) hw_205) (
  kc (ok_retI dX5_drop_35 rfl) (
  kn)))))))))))))))))))))
def cd_X5_item : List (Nat × qOp) := [
  (0, oLdI 1 1),
  (1, oCallS 93 1 0 0 0 0 4),
  (4, oIfEq 14 7),
  (7, oLdI 2 8),
  (8, oCallS 94 1 0 0 0 0 11),
  (11, oIfNe 16 14),
  (14, oI (-1) 15),
  (15, oRetI),
  (16, oLdA 0 17),
  (17, oGet 5 6 20),
  (20, oLdI 1 21),
  (21, oAALd 22),
  (22, oStA 5 24),
  (24, oLdA 5 26),
  (26, oLdI 2 27),
  (27, oCallV 33 2 1 0 0 0 0 30),
  (30, oStI 6 32),
  (32, oLdI 6 34),
  (34, oIfEq 40 37),
  (37, oLdI 6 39),
  (39, oRetI),
  (40, oLdA 5 42),
  (42, oLdI 3 43),
  (43, oI (1) 44),
  (44, oCallV 34 2 2 0 0 0 0 47),
  (47, oIfNe 53 50),
  (50, oI (-13) 52),
  (52, oRetI),
  (53, oLdA 5 55),
  (55, oGet 2 0 58),
  (58, oLdI 3 59),
  (59, oLdI 2 60),
  (60, oLdI 4 62),
  (62, oCallS 35 2 0 0 0 0 65),
  (65, oASt 66),
  (66, oI (1) 67),
  (67, oRetI)]
set_option maxRecDepth 100000 in
theorem ck_X5_item {ini : Bool} : ∀ x ∈ cd_X5_item, OpOK qMT cX5_item RX5 7 (some .int) ini 0 0 none x.1 x.2 :=
  kc (ok_iload_n dX5_item_0 rfl) (
  kc (ok_callS dX5_item_1 qm_93 rfl rfl hw_604 hw_605 qp_93) (
  kc (ok_if_eq dX5_item_4 (by decide)) (
  kc (ok_iload_n dX5_item_7 rfl) (
  kc (ok_callS dX5_item_8 qm_94 rfl rfl hw_607 hw_608 qp_94) (
  kc (ok_if_ne dX5_item_11 (by decide)) (
  kc (ok_iconst dX5_item_14 (by decide)) (
  kc (ok_retI dX5_item_15 rfl) (
  kc (ok_aload_n dX5_item_16 rfl) (
  kc (ok_get (T := TX5) (k := 6) dX5_item_17 rfl hin_X5 (by decide) hw_221) (
  kc (ok_iload_n dX5_item_20 rfl) (
  kc (ok_aaload dX5_item_21) (
  kc (ok_astore dX5_item_22) (
  kc (ok_aload dX5_item_24) (
  kc (ok_iload_n dX5_item_26 rfl) (
  kc (ok_callV (T := TX2) dX5_item_27 qm_33 rfl rfl rfl hw_610 hw_611 hw_612 qp_33) (
  kc (ok_istore dX5_item_30) (
  kc (ok_iload dX5_item_32) (
  kc (ok_if_eq dX5_item_34 (by decide)) (
  kc (ok_iload dX5_item_37) (
  kc (ok_retI dX5_item_39 rfl) (
  kc (ok_aload dX5_item_40) (
  kc (ok_iload_n dX5_item_42 rfl) (
  kc (ok_iconst dX5_item_43 (by decide)) (
  kc (ok_callV (T := TX2) dX5_item_44 qm_34 rfl rfl rfl hw_614 hw_615 hw_616 qp_34) (
  kc (ok_if_ne dX5_item_47 (by decide)) (
  kc (ok_bipush dX5_item_50 (by decide)) (
  kc (ok_retI dX5_item_52 rfl) (
  kc (ok_aload dX5_item_53) (
  kc (ok_get (T := TX2) (k := 0) dX5_item_55 rfl hin_X2 (by decide) hw_199) (
  kc (ok_iload_n dX5_item_58 rfl) (
  kc (ok_iload_n dX5_item_59 rfl) (
  kc (ok_iload dX5_item_60) (
  kc (ok_callS dX5_item_62 qm_35 rfl rfl hw_639 hw_640 qp_35) (
  kc (ok_iastore dX5_item_65) (
  kc (ok_iconst dX5_item_66 (by decide)) (
  kc (ok_retI dX5_item_67 rfl) (
  kn)))))))))))))))))))))))))))))))))))))
def cd_X5_copy : List (Nat × qOp) := [
  (0, oLdI 1 1),
  (1, oCallS 93 1 0 0 0 0 4),
  (4, oIfEq 14 7),
  (7, oLdI 3 8),
  (8, oCallS 93 1 0 0 0 0 11),
  (11, oIfNe 16 14),
  (14, oI (-1) 15),
  (15, oRetI),
  (16, oLdA 0 17),
  (17, oGet 5 6 20),
  (20, oLdI 1 21),
  (21, oAALd 22),
  (22, oStA 6 24),
  (24, oLdA 0 25),
  (25, oGet 5 6 28),
  (28, oLdI 3 29),
  (29, oAALd 30),
  (30, oStA 7 32),
  (32, oLdA 6 34),
  (34, oGet 2 1 37),
  (37, oIfNe 48 40),
  (40, oLdA 7 42),
  (42, oGet 2 1 45),
  (45, oIfEq 51 48),
  (48, oI (-11) 50),
  (50, oRetI),
  (51, oLdA 6 53),
  (53, oGet 2 2 56),
  (56, oLdA 7 58),
  (58, oGet 2 2 61),
  (61, oCmEq 67 64),
  (64, oI (-12) 66),
  (66, oRetI),
  (67, oLdA 6 69),
  (69, oLdI 2 70),
  (70, oLdI 5 72),
  (72, oCallV 34 2 2 0 0 0 0 75),
  (75, oIfEq 90 78),
  (78, oLdA 7 80),
  (80, oLdI 4 82),
  (82, oLdI 5 84),
  (84, oCallV 34 2 2 0 0 0 0 87),
  (87, oIfNe 93 90),
  (90, oI (-13) 92),
  (92, oRetI),
  (93, oLdA 6 95),
  (95, oGet 2 0 98),
  (98, oLdI 2 99),
  (99, oLdA 7 101),
  (101, oGet 2 0 104),
  (104, oLdI 4 106),
  (106, oLdI 5 108),
  (108, oCopy 111),
  (111, oLdI 5 113),
  (113, oRetI)]
set_option maxRecDepth 100000 in
theorem ck_X5_copy {ini : Bool} : ∀ x ∈ cd_X5_copy, OpOK qMT cX5_copy RX5 8 (some .int) ini 0 0 none x.1 x.2 :=
  kc (ok_iload_n dX5_copy_0 rfl) (
  kc (ok_callS dX5_copy_1 qm_93 rfl rfl hw_604 hw_605 qp_93) (
  kc (ok_if_eq dX5_copy_4 (by decide)) (
  kc (ok_iload_n dX5_copy_7 rfl) (
  kc (ok_callS dX5_copy_8 qm_93 rfl rfl hw_604 hw_605 qp_93) (
  kc (ok_if_ne dX5_copy_11 (by decide)) (
  kc (ok_iconst dX5_copy_14 (by decide)) (
  kc (ok_retI dX5_copy_15 rfl) (
  kc (ok_aload_n dX5_copy_16 rfl) (
  kc (ok_get (T := TX5) (k := 6) dX5_copy_17 rfl hin_X5 (by decide) hw_221) (
  kc (ok_iload_n dX5_copy_20 rfl) (
  kc (ok_aaload dX5_copy_21) (
  kc (ok_astore dX5_copy_22) (
  kc (ok_aload_n dX5_copy_24 rfl) (
  kc (ok_get (T := TX5) (k := 6) dX5_copy_25 rfl hin_X5 (by decide) hw_221) (
  kc (ok_iload_n dX5_copy_28 rfl) (
  kc (ok_aaload dX5_copy_29) (
  kc (ok_astore dX5_copy_30) (
  kc (ok_aload dX5_copy_32) (
  kc (ok_get (T := TX2) (k := 1) dX5_copy_34 rfl hin_X2 (by decide) hw_201) (
  kc (ok_if_ne dX5_copy_37 (by decide)) (
  kc (ok_aload dX5_copy_40) (
  kc (ok_get (T := TX2) (k := 1) dX5_copy_42 rfl hin_X2 (by decide) hw_201) (
  kc (ok_if_eq dX5_copy_45 (by decide)) (
  kc (ok_bipush dX5_copy_48 (by decide)) (
  kc (ok_retI dX5_copy_50 rfl) (
  kc (ok_aload dX5_copy_51) (
  kc (ok_get (T := TX2) (k := 2) dX5_copy_53 rfl hin_X2 (by decide) hw_203) (
  kc (ok_aload dX5_copy_56) (
  kc (ok_get (T := TX2) (k := 2) dX5_copy_58 rfl hin_X2 (by decide) hw_203) (
  kc (ok_cm_eq dX5_copy_61 (by decide)) (
  kc (ok_bipush dX5_copy_64 (by decide)) (
  kc (ok_retI dX5_copy_66 rfl) (
  kc (ok_aload dX5_copy_67) (
  kc (ok_iload_n dX5_copy_69 rfl) (
  kc (ok_iload dX5_copy_70) (
  kc (ok_callV (T := TX2) dX5_copy_72 qm_34 rfl rfl rfl hw_614 hw_615 hw_616 qp_34) (
  kc (ok_if_eq dX5_copy_75 (by decide)) (
  kc (ok_aload dX5_copy_78) (
  kc (ok_iload dX5_copy_80) (
  kc (ok_iload dX5_copy_82) (
  kc (ok_callV (T := TX2) dX5_copy_84 qm_34 rfl rfl rfl hw_614 hw_615 hw_616 qp_34) (
  kc (ok_if_ne dX5_copy_87 (by decide)) (
  kc (ok_bipush dX5_copy_90 (by decide)) (
  kc (ok_retI dX5_copy_92 rfl) (
  kc (ok_aload dX5_copy_93) (
  kc (ok_get (T := TX2) (k := 0) dX5_copy_95 rfl hin_X2 (by decide) hw_199) (
  kc (ok_iload_n dX5_copy_98 rfl) (
  kc (ok_aload dX5_copy_99) (
  kc (ok_get (T := TX2) (k := 0) dX5_copy_101 rfl hin_X2 (by decide) hw_199) (
  kc (ok_iload dX5_copy_104) (
  kc (ok_iload dX5_copy_106) (
  kc (ok_copy dX5_copy_108 hw_646 hw_366 hw_365 hw_59) (
  kc (ok_iload dX5_copy_111) (
  kc (ok_retI dX5_copy_113 rfl) (
  kn)))))))))))))))))))))))))))))))))))))))))))))))))))))))
def cd_X5_isWithin : List (Nat × qOp) := [
  (0, oLdI 0 1),
  (1, oIfLt 13 4),
  (4, oLdI 0 5),
  (5, oLdI 1 6),
  (6, oCmGt 13 9),
  (9, oI (1) 10),
  (10, oGoto 14),
  (13, oI (0) 14),
  (14, oRetZ)]
set_option maxRecDepth 100000 in
theorem ck_X5_isWithin {ini : Bool} : ∀ x ∈ cd_X5_isWithin, OpOK qMT cX5_isWithin RX5 2 (some .boolean) ini 0 0 none x.1 x.2 :=
  kc (ok_iload_n dX5_isWithin_0 rfl) (
  kc (ok_if_lt dX5_isWithin_1 (by decide)) (
  kc (ok_iload_n dX5_isWithin_4 rfl) (
  kc (ok_iload_n dX5_isWithin_5 rfl) (
  kc (ok_cm_gt dX5_isWithin_6 (by decide)) (
  kc (ok_iconst dX5_isWithin_9 (by decide)) (
  kc (ok_goto dX5_isWithin_10 (by decide)) (
  kc (ok_iconst dX5_isWithin_13 (by decide)) (
  kc (ok_retZ dX5_isWithin_14 rfl) (
  kn)))))))))
def cd_X5_isPerson : List (Nat × qOp) := [
  (0, oLdI 0 1),
  (1, oIfLt 14 4),
  (4, oLdI 0 5),
  (5, oI (6) 7),
  (7, oCmGe 14 10),
  (10, oI (1) 11),
  (11, oGoto 15),
  (14, oI (0) 15),
  (15, oRetZ)]
set_option maxRecDepth 100000 in
theorem ck_X5_isPerson {ini : Bool} : ∀ x ∈ cd_X5_isPerson, OpOK qMT cX5_isPerson RX5 1 (some .boolean) ini 0 0 none x.1 x.2 :=
  kc (ok_iload_n dX5_isPerson_0 rfl) (
  kc (ok_if_lt dX5_isPerson_1 (by decide)) (
  kc (ok_iload_n dX5_isPerson_4 rfl) (
  kc (ok_bipush dX5_isPerson_5 (by decide)) (
  kc (ok_cm_ge dX5_isPerson_7 (by decide)) (
  kc (ok_iconst dX5_isPerson_10 (by decide)) (
  kc (ok_goto dX5_isPerson_11 (by decide)) (
  kc (ok_iconst dX5_isPerson_14 (by decide)) (
  kc (ok_retZ dX5_isPerson_15 rfl) (
  kn)))))))))
def cd_X5_isSheet : List (Nat × qOp) := [
  (0, oLdI 0 1),
  (1, oIfLt 13 4),
  (4, oLdI 0 5),
  (5, oI (4) 6),
  (6, oCmGe 13 9),
  (9, oI (1) 10),
  (10, oGoto 14),
  (13, oI (0) 14),
  (14, oRetZ)]
set_option maxRecDepth 100000 in
theorem ck_X5_isSheet {ini : Bool} : ∀ x ∈ cd_X5_isSheet, OpOK qMT cX5_isSheet RX5 1 (some .boolean) ini 0 0 none x.1 x.2 :=
  kc (ok_iload_n dX5_isSheet_0 rfl) (
  kc (ok_if_lt dX5_isSheet_1 (by decide)) (
  kc (ok_iload_n dX5_isSheet_4 rfl) (
  kc (ok_iconst dX5_isSheet_5 (by decide)) (
  kc (ok_cm_ge dX5_isSheet_6 (by decide)) (
  kc (ok_iconst dX5_isSheet_9 (by decide)) (
  kc (ok_goto dX5_isSheet_10 (by decide)) (
  kc (ok_iconst dX5_isSheet_13 (by decide)) (
  kc (ok_retZ dX5_isSheet_14 rfl) (
  kn)))))))))
def cd_X5_isLane : List (Nat × qOp) := [
  (0, oLdI 0 1),
  (1, oIfLt 13 4),
  (4, oLdI 0 5),
  (5, oI (3) 6),
  (6, oCmGe 13 9),
  (9, oI (1) 10),
  (10, oGoto 14),
  (13, oI (0) 14),
  (14, oRetZ)]
set_option maxRecDepth 100000 in
theorem ck_X5_isLane {ini : Bool} : ∀ x ∈ cd_X5_isLane, OpOK qMT cX5_isLane RX5 1 (some .boolean) ini 0 0 none x.1 x.2 :=
  kc (ok_iload_n dX5_isLane_0 rfl) (
  kc (ok_if_lt dX5_isLane_1 (by decide)) (
  kc (ok_iload_n dX5_isLane_4 rfl) (
  kc (ok_iconst dX5_isLane_5 (by decide)) (
  kc (ok_cm_ge dX5_isLane_6 (by decide)) (
  kc (ok_iconst dX5_isLane_9 (by decide)) (
  kc (ok_goto dX5_isLane_10 (by decide)) (
  kc (ok_iconst dX5_isLane_13 (by decide)) (
  kc (ok_retZ dX5_isLane_14 rfl) (
  kn)))))))))
def cd_X5_isThing : List (Nat × qOp) := [
  (0, oLdI 1 1),
  (1, oIfLt 22 4),
  (4, oLdI 1 5),
  (5, oLdA 0 6),
  (6, oGet 5 0 9),
  (9, oGet 4 0 12),
  (12, oGet 0 4 15),
  (15, oCmGe 22 18),
  (18, oI (1) 19),
  (19, oGoto 23),
  (22, oI (0) 23),
  (23, oRetZ)]
set_option maxRecDepth 100000 in
theorem ck_X5_isThing {ini : Bool} : ∀ x ∈ cd_X5_isThing, OpOK qMT cX5_isThing RX5 2 (some .boolean) ini 0 0 none x.1 x.2 :=
  kc (ok_iload_n dX5_isThing_0 rfl) (
  kc (ok_if_lt dX5_isThing_1 (by decide)) (
  kc (ok_iload_n dX5_isThing_4 rfl) (
  kc (ok_aload_n dX5_isThing_5 rfl) (
  kc (ok_get (T := TX5) (k := 0) dX5_isThing_6 rfl hin_X5 (by decide) hw_215) (
  kc (ok_get (T := TX4) (k := 0) dX5_isThing_9 rfl hin_X4 (by decide) hw_120) (
  kc (ok_get (T := TX0) (k := 4) dX5_isThing_12 rfl hin_X0 (by decide) hw_94) (
  kc (ok_cm_ge dX5_isThing_15 (by decide)) (
  kc (ok_iconst dX5_isThing_18 (by decide)) (
  kc (ok_goto dX5_isThing_19 (by decide)) (
  kc (ok_iconst dX5_isThing_22 (by decide)) (
  kc (ok_retZ dX5_isThing_23 rfl) (
  kn))))))))))))
def cd_X5_isSide : List (Nat × qOp) := [
  (0, oLdA 0 1),
  (1, oLdI 1 2),
  (2, oCallV 95 5 1 0 0 0 0 5),
  (5, oIfNe 18 8),
  (8, oLdI 1 9),
  (9, oI (10) 11),
  (11, oBin (fun x y => x - y) 12),
  (12, oCallS 92 1 0 0 0 0 15),
  (15, oIfEq 22 18),
  (18, oI (1) 19),
  (19, oGoto 23),
  (22, oI (0) 23),
  (23, oRetZ)]
set_option maxRecDepth 100000 in
theorem ck_X5_isSide {ini : Bool} : ∀ x ∈ cd_X5_isSide, OpOK qMT cX5_isSide RX5 2 (some .boolean) ini 0 0 none x.1 x.2 :=
  kc (ok_aload_n dX5_isSide_0 rfl) (
  kc (ok_iload_n dX5_isSide_1 rfl) (
  kc (ok_callV (T := TX5) dX5_isSide_2 qm_95 rfl rfl rfl hw_282 hw_284 hw_0 qp_95) (
  kc (ok_if_ne dX5_isSide_5 (by decide)) (
  kc (ok_iload_n dX5_isSide_8 rfl) (
  kc (ok_bipush dX5_isSide_9 (by decide)) (
  kc (ok_isub dX5_isSide_11) (
  kc (ok_callS dX5_isSide_12 qm_92 rfl rfl hw_241 hw_242 qp_92) (
  kc (ok_if_eq dX5_isSide_15 (by decide)) (
  kc (ok_iconst dX5_isSide_18 (by decide)) (
  kc (ok_goto dX5_isSide_19 (by decide)) (
  kc (ok_iconst dX5_isSide_22 (by decide)) (
  kc (ok_retZ dX5_isSide_23 rfl) (
  kn)))))))))))))
def cd_X5_put : List (Nat × qOp) := [
  (0, oLdI 1 1),
  (1, oIfLt 10 4),
  (4, oLdI 1 5),
  (5, oLdA 0 6),
  (6, oLen 7),
  (7, oCmLt 12 10),
  (10, oI (-1) 11),
  (11, oRetI),
  (12, oLdA 0 13),
  (13, oLdI 1 14),
  (14, oALd 15),
  (15, oStI 3 16),
  (16, oLdA 0 17),
  (17, oLdI 1 18),
  (18, oLdI 2 19),
  (19, oASt 20),
  (20, oLdI 3 21),
  (21, oRetI)]
set_option maxRecDepth 100000 in
theorem ck_X5_put {ini : Bool} : ∀ x ∈ cd_X5_put, OpOK qMT cX5_put RX5 4 (some .int) ini 0 0 none x.1 x.2 :=
  kc (ok_iload_n dX5_put_0 rfl) (
  kc (ok_if_lt dX5_put_1 (by decide)) (
  kc (ok_iload_n dX5_put_4 rfl) (
  kc (ok_aload_n dX5_put_5 rfl) (
  kc (ok_alen dX5_put_6) (
  kc (ok_cm_lt dX5_put_7 (by decide)) (
  kc (ok_iconst dX5_put_10 (by decide)) (
  kc (ok_retI dX5_put_11 rfl) (
  kc (ok_aload_n dX5_put_12 rfl) (
  kc (ok_iload_n dX5_put_13 rfl) (
  kc (ok_iaload dX5_put_14) (
  kc (ok_istore_n dX5_put_15 rfl) (
  kc (ok_aload_n dX5_put_16 rfl) (
  kc (ok_iload_n dX5_put_17 rfl) (
  kc (ok_iload_n dX5_put_18 rfl) (
  kc (ok_iastore dX5_put_19) (
  kc (ok_iload_n dX5_put_20 rfl) (
  kc (ok_retI dX5_put_21 rfl) (
  kn))))))))))))))))))
def cd_X5_trySale : List (Nat × qOp) := [
  (0, oLdA 0 1),
  (1, oGet 5 3 4),
  (4, oLdA 0 5),
  (5, oGet 5 0 8),
  (8, oGet 4 0 11),
  (11, oCallV 1 0 1 0 0 0 0 14),
  (14, oLdA 0 15),
  (15, oGet 5 3 18),
  (18, oLdI 1 19),
  (19, oLdI 2 20),
  (20, oCallV 6 0 2 0 0 0 0 23),
  (23, oPop 24),
  (24, oRetV)]
set_option maxRecDepth 100000 in
theorem ck_X5_trySale {ini : Bool} : ∀ x ∈ cd_X5_trySale, OpOK qMT cX5_trySale RX5 3 none ini 0 0 none x.1 x.2 :=
  kc (ok_aload_n dX5_trySale_0 rfl) (
  kc (ok_get (T := TX5) (k := 3) dX5_trySale_1 rfl hin_X5 (by decide) hw_218) (
  kc (ok_aload_n dX5_trySale_4 rfl) (
  kc (ok_get (T := TX5) (k := 0) dX5_trySale_5 rfl hin_X5 (by decide) hw_215) (
  kc (ok_get (T := TX4) (k := 0) dX5_trySale_8 rfl hin_X4 (by decide) hw_120) (
  kc (ok_callV (T := TX0) dX5_trySale_11 qm_1 rfl rfl rfl hw_466 hw_467 hw_468 qp_1) (
  kc (ok_aload_n dX5_trySale_14 rfl) (
  kc (ok_get (T := TX5) (k := 3) dX5_trySale_15 rfl hin_X5 (by decide) hw_218) (
  kc (ok_iload_n dX5_trySale_18 rfl) (
  kc (ok_iload_n dX5_trySale_19 rfl) (
  kc (ok_callV (T := TX0) dX5_trySale_20 qm_6 rfl rfl rfl hw_434 hw_411 hw_412 qp_6) (
  kc (ok_pop dX5_trySale_23) (
  kc (ok_retV dX5_trySale_24 rfl) (
  kn)))))))))))))
def cd_X5_gainOf : List (Nat × qOp) := [
  (0, oLdI 1 1),
  (1, oI (6) 3),
  (3, oCmNe 10 6),
  (6, oI (0) 7),
  (7, oGoto 38),
  (10, oLdA 0 11),
  (11, oGet 5 0 14),
  (14, oLdI 1 15),
  (15, oLdA 0 16),
  (16, oGet 5 3 19),
  (19, oCallV 53 4 2 0 0 0 0 22),
  (22, oLdA 0 23),
  (23, oGet 5 0 26),
  (26, oLdI 1 27),
  (27, oLdA 0 28),
  (28, oGet 5 0 31),
  (31, oGet 4 0 34),
  (34, oCallV 53 4 2 0 0 0 0 37),
  (37, oBin (fun x y => x - y) 38),
  (38, oRetI)]
set_option maxRecDepth 100000 in
theorem ck_X5_gainOf {ini : Bool} : ∀ x ∈ cd_X5_gainOf, OpOK qMT cX5_gainOf RX5 2 (some .int) ini 0 0 none x.1 x.2 :=
  kc (ok_iload_n dX5_gainOf_0 rfl) (
  kc (ok_bipush dX5_gainOf_1 (by decide)) (
  kc (ok_cm_ne dX5_gainOf_3 (by decide)) (
  kc (ok_iconst dX5_gainOf_6 (by decide)) (
  kc (ok_goto dX5_gainOf_7 (by decide)) (
  kc (ok_aload_n dX5_gainOf_10 rfl) (
  kc (ok_get (T := TX5) (k := 0) dX5_gainOf_11 rfl hin_X5 (by decide) hw_215) (
  kc (ok_iload_n dX5_gainOf_14 rfl) (
  kc (ok_aload_n dX5_gainOf_15 rfl) (
  kc (ok_get (T := TX5) (k := 3) dX5_gainOf_16 rfl hin_X5 (by decide) hw_218) (
  kc (ok_callV (T := TX4) dX5_gainOf_19 qm_53 rfl rfl rfl hw_317 hw_318 hw_319 qp_53) (
  kc (ok_aload_n dX5_gainOf_22 rfl) (
  kc (ok_get (T := TX5) (k := 0) dX5_gainOf_23 rfl hin_X5 (by decide) hw_215) (
  kc (ok_iload_n dX5_gainOf_26 rfl) (
  kc (ok_aload_n dX5_gainOf_27 rfl) (
  kc (ok_get (T := TX5) (k := 0) dX5_gainOf_28 rfl hin_X5 (by decide) hw_215) (
  kc (ok_get (T := TX4) (k := 0) dX5_gainOf_31 rfl hin_X4 (by decide) hw_120) (
  kc (ok_callV (T := TX4) dX5_gainOf_34 qm_53 rfl rfl rfl hw_317 hw_318 hw_319 qp_53) (
  kc (ok_isub dX5_gainOf_37) (
  kc (ok_retI dX5_gainOf_38 rfl) (
  kn))))))))))))))))))))
def cd_X5_makeFirstAgreed : List (Nat × qOp) := [
  (0, oI (0) 1),
  (1, oStI 1 2),
  (2, oLdI 1 3),
  (3, oLdA 0 4),
  (4, oGet 5 0 7),
  (7, oGet 4 0 10),
  (10, oGet 0 4 13),
  (13, oCmGe 60 16),
  (16, oI (0) 17),
  (17, oStI 2 18),
  (18, oLdI 2 19),
  (19, oI (6) 21),
  (21, oCmGe 54 24),
  (24, oLdA 0 25),
  (25, oLdI 1 26),
  (26, oLdI 2 27),
  (27, oCallV 74 5 2 0 0 0 0 30),
  (30, oStI 3 31),
  (31, oLdI 3 32),
  (32, oIfLt 48 35),
  (35, oLdA 0 36),
  (36, oGet 5 0 39),
  (39, oLdI 1 40),
  (40, oLdI 2 41),
  (41, oLdI 3 42),
  (42, oCallV 51 4 3 0 0 0 0 45),
  (45, oPop 46),
  (46, oI (1) 47),
  (47, oRetZ),
  (48, oInc 2 (1) 51),
  (51, oGoto 18),
  (54, oInc 1 (1) 57),
  (57, oGoto 2),
  (60, oI (0) 61),
  (61, oRetZ)]
set_option maxRecDepth 100000 in
theorem ck_X5_makeFirstAgreed {ini : Bool} : ∀ x ∈ cd_X5_makeFirstAgreed, OpOK qMT cX5_makeFirstAgreed RX5 4 (some .boolean) ini 0 0 none x.1 x.2 :=
  kc (ok_iconst dX5_makeFirstAgreed_0 (by decide)) (
  kc (ok_istore_n dX5_makeFirstAgreed_1 rfl) (
  kc (ok_iload_n dX5_makeFirstAgreed_2 rfl) (
  kc (ok_aload_n dX5_makeFirstAgreed_3 rfl) (
  kc (ok_get (T := TX5) (k := 0) dX5_makeFirstAgreed_4 rfl hin_X5 (by decide) hw_215) (
  kc (ok_get (T := TX4) (k := 0) dX5_makeFirstAgreed_7 rfl hin_X4 (by decide) hw_120) (
  kc (ok_get (T := TX0) (k := 4) dX5_makeFirstAgreed_10 rfl hin_X0 (by decide) hw_94) (
  kc (ok_cm_ge dX5_makeFirstAgreed_13 (by decide)) (
  kc (ok_iconst dX5_makeFirstAgreed_16 (by decide)) (
  kc (ok_istore_n dX5_makeFirstAgreed_17 rfl) (
  kc (ok_iload_n dX5_makeFirstAgreed_18 rfl) (
  kc (ok_bipush dX5_makeFirstAgreed_19 (by decide)) (
  kc (ok_cm_ge dX5_makeFirstAgreed_21 (by decide)) (
  kc (ok_aload_n dX5_makeFirstAgreed_24 rfl) (
  kc (ok_iload_n dX5_makeFirstAgreed_25 rfl) (
  kc (ok_iload_n dX5_makeFirstAgreed_26 rfl) (
  kc (ok_callV (T := TX5) dX5_makeFirstAgreed_27 qm_74 rfl rfl rfl hw_490 hw_476 hw_477 qp_74) (
  kc (ok_istore_n dX5_makeFirstAgreed_30 rfl) (
  kc (ok_iload_n dX5_makeFirstAgreed_31 rfl) (
  kc (ok_if_lt dX5_makeFirstAgreed_32 (by decide)) (
  kc (ok_aload_n dX5_makeFirstAgreed_35 rfl) (
  kc (ok_get (T := TX5) (k := 0) dX5_makeFirstAgreed_36 rfl hin_X5 (by decide) hw_215) (
  kc (ok_iload_n dX5_makeFirstAgreed_39 rfl) (
  kc (ok_iload_n dX5_makeFirstAgreed_40 rfl) (
  kc (ok_iload_n dX5_makeFirstAgreed_41 rfl) (
  kc (ok_callV (T := TX4) dX5_makeFirstAgreed_42 qm_51 rfl rfl rfl hw_403 hw_404 hw_405 qp_51) (
  kc (ok_pop dX5_makeFirstAgreed_45) (
  kc (ok_iconst dX5_makeFirstAgreed_46 (by decide)) (
  kc (ok_retZ dX5_makeFirstAgreed_47 rfl) (
  kc (ok_iinc dX5_makeFirstAgreed_48 (by decide)) (
  kc (ok_goto dX5_makeFirstAgreed_51 (by decide)) (
  kc (ok_iinc dX5_makeFirstAgreed_54 (by decide)) (
  kc (ok_goto dX5_makeFirstAgreed_57 (by decide)) (
  kc (ok_iconst dX5_makeFirstAgreed_60 (by decide)) (
  kc (ok_retZ dX5_makeFirstAgreed_61 rfl) (
  kn)))))))))))))))))))))))))))))))))))
def cd_X5_dealOne : List (Nat × qOp) := [
  (0, oLdA 1 1),
  (1, oLdI 2 2),
  (2, oI (3) 3),
  (3, oCallV 34 2 2 0 0 0 0 6),
  (6, oIfEq 42 9),
  (9, oLdA 0 10),
  (10, oLdA 1 11),
  (11, oGet 2 0 14),
  (14, oLdI 2 15),
  (15, oALd 16),
  (16, oLdA 1 17),
  (17, oGet 2 0 20),
  (20, oLdI 2 21),
  (21, oI (1) 22),
  (22, oBin (fun x y => x + y) 23),
  (23, oALd 24),
  (24, oLdA 1 25),
  (25, oGet 2 0 28),
  (28, oLdI 2 29),
  (29, oI (2) 30),
  (30, oBin (fun x y => x + y) 31),
  (31, oALd 32),
  (32, oCallV 68 5 3 0 0 0 0 35),
  (35, oIfLt 42 38),
  (38, oI (1) 39),
  (39, oGoto 43),
  (42, oI (0) 43),
  (43, oRetZ)]
set_option maxRecDepth 100000 in
theorem ck_X5_dealOne {ini : Bool} : ∀ x ∈ cd_X5_dealOne, OpOK qMT cX5_dealOne RX5 3 (some .boolean) ini 0 0 none x.1 x.2 :=
  kc (ok_aload_n dX5_dealOne_0 rfl) (
  kc (ok_iload_n dX5_dealOne_1 rfl) (
  kc (ok_iconst dX5_dealOne_2 (by decide)) (
  kc (ok_callV (T := TX2) dX5_dealOne_3 qm_34 rfl rfl rfl hw_614 hw_615 hw_616 qp_34) (
  kc (ok_if_eq dX5_dealOne_6 (by decide)) (
  kc (ok_aload_n dX5_dealOne_9 rfl) (
  kc (ok_aload_n dX5_dealOne_10 rfl) (
  kc (ok_get (T := TX2) (k := 0) dX5_dealOne_11 rfl hin_X2 (by decide) hw_199) (
  kc (ok_iload_n dX5_dealOne_14 rfl) (
  kc (ok_iaload dX5_dealOne_15) (
  kc (ok_aload_n dX5_dealOne_16 rfl) (
  kc (ok_get (T := TX2) (k := 0) dX5_dealOne_17 rfl hin_X2 (by decide) hw_199) (
  kc (ok_iload_n dX5_dealOne_20 rfl) (
  kc (ok_iconst dX5_dealOne_21 (by decide)) (
  kc (ok_iadd dX5_dealOne_22) (
  kc (ok_iaload dX5_dealOne_23) (
  kc (ok_aload_n dX5_dealOne_24 rfl) (
  kc (ok_get (T := TX2) (k := 0) dX5_dealOne_25 rfl hin_X2 (by decide) hw_199) (
  kc (ok_iload_n dX5_dealOne_28 rfl) (
  kc (ok_iconst dX5_dealOne_29 (by decide)) (
  kc (ok_iadd dX5_dealOne_30) (
  kc (ok_iaload dX5_dealOne_31) (
  kc (ok_callV (T := TX5) dX5_dealOne_32 qm_68 rfl rfl rfl hw_622 hw_400 hw_401 qp_68) (
  kc (ok_if_lt dX5_dealOne_35 (by decide)) (
  kc (ok_iconst dX5_dealOne_38 (by decide)) (
  kc (ok_goto dX5_dealOne_39 (by decide)) (
  kc (ok_iconst dX5_dealOne_42 (by decide)) (
  kc (ok_retZ dX5_dealOne_43 rfl) (
  kn))))))))))))))))))))))))))))
