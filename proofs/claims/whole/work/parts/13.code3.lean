def cd_X6_in : List (Nat × qOp) := [
  (0, oLdL 0 1),
  (1, oLdL 2 2),
  (2, oLcmp 3),
  (3, oIfLt 17 6),
  (6, oLdL 0 7),
  (7, oLdL 4 9),
  (9, oLcmp 10),
  (10, oIfGt 17 13),
  (13, oI (1) 14),
  (14, oGoto 18),
  (17, oI (0) 18),
  (18, oRetZ)]
set_option maxRecDepth 100000 in
theorem ck_X6_in {ini : Bool} : ∀ x ∈ cd_X6_in, OpOK qMT cX6_in RX6 6 (some .boolean) ini 0 0 none x.1 x.2 :=
  kc (ok_lload_n dX6_in_0 rfl) (
  kc (ok_lload_n dX6_in_1 rfl) (
  kc (ok_lcmp dX6_in_2) (
  kc (ok_if_lt dX6_in_3 (by decide)) (
  kc (ok_lload_n dX6_in_6 rfl) (
  kc (ok_lload dX6_in_7) (
  kc (ok_lcmp dX6_in_9) (
  kc (ok_if_gt dX6_in_10 (by decide)) (
  kc (ok_iconst dX6_in_13 (by decide)) (
  kc (ok_goto dX6_in_14 (by decide)) (
  kc (ok_iconst dX6_in_17 (by decide)) (
  kc (ok_retZ dX6_in_18 rfl) (
  kn))))))))))))
def cd_X6_init : List (Nat × qOp) := [
  (0, oLdA 0 1),
  (1, oObj 4),
  (4, oLdA 0 5),
  (5, oI (6) 7),
  (7, oNewI 19 506 9),
  (9, oPutF 6 0 12),
  (12, oLdA 0 13),
  (13, oI (6) 15),
  (15, oNewI 19 506 17),
  (17, oPutF 6 1 20),
  (20, oLdA 0 21),
  (21, oI (2) 22),
  (22, oNewI 19 506 24),
  (24, oPutF 6 2 27),
  (27, oLdA 0 28),
  (28, oI (8) 30),
  (30, oNewI 19 506 32),
  (32, oPutF 6 4 35),
  (35, oLdA 0 36),
  (36, oI (48) 38),
  (38, oNewI 19 506 40),
  (40, oPutF 6 5 43),
  (43, oLdA 0 44),
  (44, oI (12) 46),
  (46, oNewI 19 506 48),
  (48, oPutF 6 7 51),
  (51, oLdA 0 52),
  (52, oI (12) 54),
  (54, oNewI 19 506 56),
  (56, oPutF 6 8 59),
  (59, oLdA 0 60),
  (60, oI (80) 62),
  (62, oNewI 19 506 64),
  (64, oPutF 6 11 67),
  (67, oLdA 0 68),
  (68, oI (56) 70),
  (70, oNewI 19 506 72),
  (72, oPutF 6 15 75),
  (75, oLdA 0 76),
  (76, oI (8) 78),
  (78, oNewI 19 506 80),
  (80, oPutF 6 16 83),
  (83, oLdA 0 84),
  (84, oI (12) 86),
  (86, oNewI 19 506 88),
  (88, oPutF 6 17 91),
  (91, oLdA 0 92),
  (92, oI (12) 94),
  (94, oNewI 19 506 96),
  (96, oPutF 6 18 99),
  (99, oLdA 0 100),
  (100, oI (3) 101),
  (101, oNewI 19 506 103),
  (103, oPutF 6 20 106),
  (106, oLdA 0 107),
  (107, oI (3) 108),
  (108, oNewI 19 506 110),
  (110, oPutF 6 21 113),
  (113, oLdA 0 114),
  (114, oI (110) 116),
  (116, oNewI 19 506 118),
  (118, oPutF 6 23 121),
  (121, oLdA 0 122),
  (122, oI (4) 123),
  (123, oNewI 19 506 125),
  (125, oPutF 6 25 128),
  (128, oLdA 0 129),
  (129, oI (4) 130),
  (130, oNewI 19 506 132),
  (132, oPutF 6 26 135),
  (135, oLdA 0 136),
  (136, oI (96) 138),
  (138, oNewI 19 506 140),
  (140, oPutF 6 27 143),
  (143, oLdA 0 144),
  (144, oI (24) 146),
  (146, oNewI 19 506 148),
  (148, oPutF 6 28 151),
  (151, oI (0) 152),
  (152, oStI 1 153),
  (153, oLdI 1 154),
  (154, oI (4) 155),
  (155, oCmGe 171 158),
  (158, oLdA 0 159),
  (159, oGet 6 25 162),
  (162, oLdI 1 163),
  (163, oI (-1) 164),
  (164, oASt 165),
  (165, oInc 1 (1) 168),
  (168, oGoto 153),
  (171, oI (0) 172),
  (172, oStI 1 173),
  (173, oLdI 1 174),
  (174, oI (6) 176),
  (176, oCmGe 200 179),
  (179, oLdA 0 180),
  (180, oGet 6 0 183),
  (183, oLdI 1 184),
  (184, oI (50) 186),
  (186, oASt 187),
  (187, oLdA 0 188),
  (188, oGet 6 1 191),
  (191, oLdI 1 192),
  (192, oI (3) 193),
  (193, oASt 194),
  (194, oInc 1 (1) 197),
  (197, oGoto 173),
  (200, oRetV)]
set_option maxRecDepth 100000 in
theorem ck_X6_init {ini : Bool} (hi : ini = true) : ∀ x ∈ cd_X6_init, OpOK qMT cX6_init RX6 2 none ini 19 506 none x.1 x.2 :=
  kc (ok_aload_n dX6_init_0 rfl) (
  kc (ok_objInit dX6_init_1 hw_652 hw_68 hw_69) (
  kc (ok_aload_n dX6_init_4 rfl) (
  kc (ok_bipush dX6_init_5 (by decide)) (
  kc (ok_newI dX6_init_7 hw_118) (
  kc (ok_putF (T := TX6) (k := 0) dX6_init_9 rfl hin_X6 tyX6_ok nmX6 (by decide) hw_653 rfl rfl hi (tyX6_ok 0 (by decide)) (fun _ => ⟨rfl, rfl⟩)) (
  kc (ok_aload_n dX6_init_12 rfl) (
  kc (ok_bipush dX6_init_13 (by decide)) (
  kc (ok_newI dX6_init_15 hw_118) (
  kc (ok_putF (T := TX6) (k := 1) dX6_init_17 rfl hin_X6 tyX6_ok nmX6 (by decide) hw_654 rfl rfl hi (tyX6_ok 1 (by decide)) (fun _ => ⟨rfl, rfl⟩)) (
  kc (ok_aload_n dX6_init_20 rfl) (
  kc (ok_iconst dX6_init_21 (by decide)) (
  kc (ok_newI dX6_init_22 hw_118) (
  kc (ok_putF (T := TX6) (k := 2) dX6_init_24 rfl hin_X6 tyX6_ok nmX6 (by decide) hw_655 rfl rfl hi (tyX6_ok 2 (by decide)) (fun _ => ⟨rfl, rfl⟩)) (
  kc (ok_aload_n dX6_init_27 rfl) (
  kc (ok_bipush dX6_init_28 (by decide)) (
  kc (ok_newI dX6_init_30 hw_118) (
  kc (ok_putF (T := TX6) (k := 4) dX6_init_32 rfl hin_X6 tyX6_ok nmX6 (by decide) hw_657 rfl rfl hi (tyX6_ok 4 (by decide)) (fun _ => ⟨rfl, rfl⟩)) (
  kc (ok_aload_n dX6_init_35 rfl) (
  kc (ok_bipush dX6_init_36 (by decide)) (
  kc (ok_newI dX6_init_38 hw_118) (
  kc (ok_putF (T := TX6) (k := 5) dX6_init_40 rfl hin_X6 tyX6_ok nmX6 (by decide) hw_658 rfl rfl hi (tyX6_ok 5 (by decide)) (fun _ => ⟨rfl, rfl⟩)) (
  kc (ok_aload_n dX6_init_43 rfl) (
  kc (ok_bipush dX6_init_44 (by decide)) (
  kc (ok_newI dX6_init_46 hw_118) (
  kc (ok_putF (T := TX6) (k := 7) dX6_init_48 rfl hin_X6 tyX6_ok nmX6 (by decide) hw_660 rfl rfl hi (tyX6_ok 7 (by decide)) (fun _ => ⟨rfl, rfl⟩)) (
  kc (ok_aload_n dX6_init_51 rfl) (
  kc (ok_bipush dX6_init_52 (by decide)) (
  kc (ok_newI dX6_init_54 hw_118) (
  kc (ok_putF (T := TX6) (k := 8) dX6_init_56 rfl hin_X6 tyX6_ok nmX6 (by decide) hw_661 rfl rfl hi (tyX6_ok 8 (by decide)) (fun _ => ⟨rfl, rfl⟩)) (
  kc (ok_aload_n dX6_init_59 rfl) (
  kc (ok_bipush dX6_init_60 (by decide)) (
  kc (ok_newI dX6_init_62 hw_118) (
  kc (ok_putF (T := TX6) (k := 11) dX6_init_64 rfl hin_X6 tyX6_ok nmX6 (by decide) hw_664 rfl rfl hi (tyX6_ok 11 (by decide)) (fun _ => ⟨rfl, rfl⟩)) (
  kc (ok_aload_n dX6_init_67 rfl) (
  kc (ok_bipush dX6_init_68 (by decide)) (
  kc (ok_newI dX6_init_70 hw_118) (
  kc (ok_putF (T := TX6) (k := 15) dX6_init_72 rfl hin_X6 tyX6_ok nmX6 (by decide) hw_668 rfl rfl hi (tyX6_ok 15 (by decide)) (fun _ => ⟨rfl, rfl⟩)) (
  kc (ok_aload_n dX6_init_75 rfl) (
  kc (ok_bipush dX6_init_76 (by decide)) (
  kc (ok_newI dX6_init_78 hw_118) (
  kc (ok_putF (T := TX6) (k := 16) dX6_init_80 rfl hin_X6 tyX6_ok nmX6 (by decide) hw_669 rfl rfl hi (tyX6_ok 16 (by decide)) (fun _ => ⟨rfl, rfl⟩)) (
  kc (ok_aload_n dX6_init_83 rfl) (
  kc (ok_bipush dX6_init_84 (by decide)) (
  kc (ok_newI dX6_init_86 hw_118) (
  kc (ok_putF (T := TX6) (k := 17) dX6_init_88 rfl hin_X6 tyX6_ok nmX6 (by decide) hw_670 rfl rfl hi (tyX6_ok 17 (by decide)) (fun _ => ⟨rfl, rfl⟩)) (
  kc (ok_aload_n dX6_init_91 rfl) (
  kc (ok_bipush dX6_init_92 (by decide)) (
  kc (ok_newI dX6_init_94 hw_118) (
  kc (ok_putF (T := TX6) (k := 18) dX6_init_96 rfl hin_X6 tyX6_ok nmX6 (by decide) hw_671 rfl rfl hi (tyX6_ok 18 (by decide)) (fun _ => ⟨rfl, rfl⟩)) (
  kc (ok_aload_n dX6_init_99 rfl) (
  kc (ok_iconst dX6_init_100 (by decide)) (
  kc (ok_newI dX6_init_101 hw_118) (
  kc (ok_putF (T := TX6) (k := 20) dX6_init_103 rfl hin_X6 tyX6_ok nmX6 (by decide) hw_673 rfl rfl hi (tyX6_ok 20 (by decide)) (fun _ => ⟨rfl, rfl⟩)) (
  kc (ok_aload_n dX6_init_106 rfl) (
  kc (ok_iconst dX6_init_107 (by decide)) (
  kc (ok_newI dX6_init_108 hw_118) (
  kc (ok_putF (T := TX6) (k := 21) dX6_init_110 rfl hin_X6 tyX6_ok nmX6 (by decide) hw_674 rfl rfl hi (tyX6_ok 21 (by decide)) (fun _ => ⟨rfl, rfl⟩)) (
  kc (ok_aload_n dX6_init_113 rfl) (
  kc (ok_bipush dX6_init_114 (by decide)) (
  kc (ok_newI dX6_init_116 hw_118) (
  kc (ok_putF (T := TX6) (k := 23) dX6_init_118 rfl hin_X6 tyX6_ok nmX6 (by decide) hw_676 rfl rfl hi (tyX6_ok 23 (by decide)) (fun _ => ⟨rfl, rfl⟩)) (
  kc (ok_aload_n dX6_init_121 rfl) (
  kc (ok_iconst dX6_init_122 (by decide)) (
  kc (ok_newI dX6_init_123 hw_118) (
  kc (ok_putF (T := TX6) (k := 25) dX6_init_125 rfl hin_X6 tyX6_ok nmX6 (by decide) hw_678 rfl rfl hi (tyX6_ok 25 (by decide)) (fun _ => ⟨rfl, rfl⟩)) (
  kc (ok_aload_n dX6_init_128 rfl) (
  kc (ok_iconst dX6_init_129 (by decide)) (
  kc (ok_newI dX6_init_130 hw_118) (
  kc (ok_putF (T := TX6) (k := 26) dX6_init_132 rfl hin_X6 tyX6_ok nmX6 (by decide) hw_679 rfl rfl hi (tyX6_ok 26 (by decide)) (fun _ => ⟨rfl, rfl⟩)) (
  kc (ok_aload_n dX6_init_135 rfl) (
  kc (ok_bipush dX6_init_136 (by decide)) (
  kc (ok_newI dX6_init_138 hw_118) (
  kc (ok_putF (T := TX6) (k := 27) dX6_init_140 rfl hin_X6 tyX6_ok nmX6 (by decide) hw_680 rfl rfl hi (tyX6_ok 27 (by decide)) (fun _ => ⟨rfl, rfl⟩)) (
  kc (ok_aload_n dX6_init_143 rfl) (
  kc (ok_bipush dX6_init_144 (by decide)) (
  kc (ok_newI dX6_init_146 hw_118) (
  kc (ok_putF (T := TX6) (k := 28) dX6_init_148 rfl hin_X6 tyX6_ok nmX6 (by decide) hw_681 rfl rfl hi (tyX6_ok 28 (by decide)) (fun _ => ⟨rfl, rfl⟩)) (
  kc (ok_iconst dX6_init_151 (by decide)) (
  kc (ok_istore_n dX6_init_152 rfl) (
  kc (ok_iload_n dX6_init_153 rfl) (
  kc (ok_iconst dX6_init_154 (by decide)) (
  kc (ok_cm_ge dX6_init_155 (by decide)) (
  kc (ok_aload_n dX6_init_158 rfl) (
  kc (ok_get (T := TX6) (k := 25) dX6_init_159 rfl hin_X6 (by decide) hw_678) (
  kc (ok_iload_n dX6_init_162 rfl) (
  kc (ok_iconst dX6_init_163 (by decide)) (
  kc (ok_iastore dX6_init_164) (
  kc (ok_iinc dX6_init_165 (by decide)) (
  kc (ok_goto dX6_init_168 (by decide)) (
  kc (ok_iconst dX6_init_171 (by decide)) (
  kc (ok_istore_n dX6_init_172 rfl) (
  kc (ok_iload_n dX6_init_173 rfl) (
  kc (ok_bipush dX6_init_174 (by decide)) (
  kc (ok_cm_ge dX6_init_176 (by decide)) (
  kc (ok_aload_n dX6_init_179 rfl) (
  kc (ok_get (T := TX6) (k := 0) dX6_init_180 rfl hin_X6 (by decide) hw_653) (
  kc (ok_iload_n dX6_init_183 rfl) (
  kc (ok_bipush dX6_init_184 (by decide)) (
  kc (ok_iastore dX6_init_186) (
  kc (ok_aload_n dX6_init_187 rfl) (
  kc (ok_get (T := TX6) (k := 1) dX6_init_188 rfl hin_X6 (by decide) hw_654) (
  kc (ok_iload_n dX6_init_191 rfl) (
  kc (ok_iconst dX6_init_192 (by decide)) (
  kc (ok_iastore dX6_init_193) (
  kc (ok_iinc dX6_init_194 (by decide)) (
  kc (ok_goto dX6_init_197 (by decide)) (
  kc (ok_retV dX6_init_200 rfl) (
  kn))))))))))))))))))))))))))))))))))))))))))))))))))))))))))))))))))))))))))))))))))))))))))))))))))))))))))))
def cd_X6_isPerson : List (Nat × qOp) := [
  (0, oLdI 0 1),
  (1, oI2L 2),
  (2, oL (0) 3),
  (3, oL (5) 6),
  (6, oCallS 102 3 0 0 0 0 9),
  (9, oRetZ)]
set_option maxRecDepth 100000 in
theorem ck_X6_isPerson {ini : Bool} : ∀ x ∈ cd_X6_isPerson, OpOK qMT cX6_isPerson RX6 1 (some .boolean) ini 0 0 none x.1 x.2 :=
  kc (ok_iload_n dX6_isPerson_0 rfl) (
  kc (ok_i2l dX6_isPerson_1) (
  kc (ok_lconst dX6_isPerson_2 (by decide)) (
  kc (ok_ldc2 dX6_isPerson_3 hw_748) (
  kc (ok_callS dX6_isPerson_6 qm_102 rfl rfl hw_749 hw_750 qp_102) (
  kc (ok_retZ dX6_isPerson_9 rfl) (
  kn))))))
def cd_X6_isThing : List (Nat × qOp) := [
  (0, oLdI 1 1),
  (1, oI2L 2),
  (2, oL (0) 3),
  (3, oLdA 0 4),
  (4, oGet 6 3 7),
  (7, oI (1) 8),
  (8, oBin (fun x y => x - y) 9),
  (9, oI2L 10),
  (10, oCallS 102 3 0 0 0 0 13),
  (13, oRetZ)]
set_option maxRecDepth 100000 in
theorem ck_X6_isThing {ini : Bool} : ∀ x ∈ cd_X6_isThing, OpOK qMT cX6_isThing RX6 2 (some .boolean) ini 0 0 none x.1 x.2 :=
  kc (ok_iload_n dX6_isThing_0 rfl) (
  kc (ok_i2l dX6_isThing_1) (
  kc (ok_lconst dX6_isThing_2 (by decide)) (
  kc (ok_aload_n dX6_isThing_3 rfl) (
  kc (ok_get (T := TX6) (k := 3) dX6_isThing_4 rfl hin_X6 (by decide) hw_656) (
  kc (ok_iconst dX6_isThing_7 (by decide)) (
  kc (ok_isub dX6_isThing_8) (
  kc (ok_i2l dX6_isThing_9) (
  kc (ok_callS dX6_isThing_10 qm_102 rfl rfl hw_749 hw_750 qp_102) (
  kc (ok_retZ dX6_isThing_13 rfl) (
  kn))))))))))
def cd_X6_isSide : List (Nat × qOp) := [
  (0, oLdA 0 1),
  (1, oLdI 1 2),
  (2, oCallV 105 6 1 0 0 0 0 5),
  (5, oIfNe 22 8),
  (8, oLdI 1 9),
  (9, oI2L 10),
  (10, oL (10) 13),
  (13, oL (15) 16),
  (16, oCallS 102 3 0 0 0 0 19),
  (19, oIfEq 26 22),
  (22, oI (1) 23),
  (23, oGoto 27),
  (26, oI (0) 27),
  (27, oRetZ)]
set_option maxRecDepth 100000 in
theorem ck_X6_isSide {ini : Bool} : ∀ x ∈ cd_X6_isSide, OpOK qMT cX6_isSide RX6 2 (some .boolean) ini 0 0 none x.1 x.2 :=
  kc (ok_aload_n dX6_isSide_0 rfl) (
  kc (ok_iload_n dX6_isSide_1 rfl) (
  kc (ok_callV (T := TX6) dX6_isSide_2 qm_105 rfl rfl rfl hw_779 hw_781 hw_21 qp_105) (
  kc (ok_if_ne dX6_isSide_5 (by decide)) (
  kc (ok_iload_n dX6_isSide_8 rfl) (
  kc (ok_i2l dX6_isSide_9) (
  kc (ok_ldc2 dX6_isSide_10 hw_791) (
  kc (ok_ldc2 dX6_isSide_13 hw_792) (
  kc (ok_callS dX6_isSide_16 qm_102 rfl rfl hw_749 hw_750 qp_102) (
  kc (ok_if_eq dX6_isSide_19 (by decide)) (
  kc (ok_iconst dX6_isSide_22 (by decide)) (
  kc (ok_goto dX6_isSide_23 (by decide)) (
  kc (ok_iconst dX6_isSide_26 (by decide)) (
  kc (ok_retZ dX6_isSide_27 rfl) (
  kn))))))))))))))
def cd_X6_stands : List (Nat × qOp) := [
  (0, oLdI 1 1),
  (1, oI (10) 3),
  (3, oCmGe 15 6),
  (6, oLdA 0 7),
  (7, oGet 6 4 10),
  (10, oLdI 1 11),
  (11, oALd 12),
  (12, oGoto 19),
  (15, oLdI 1 16),
  (16, oI (10) 18),
  (18, oBin (fun x y => x - y) 19),
  (19, oRetI)]
set_option maxRecDepth 100000 in
theorem ck_X6_stands {ini : Bool} : ∀ x ∈ cd_X6_stands, OpOK qMT cX6_stands RX6 2 (some .int) ini 0 0 none x.1 x.2 :=
  kc (ok_iload_n dX6_stands_0 rfl) (
  kc (ok_bipush dX6_stands_1 (by decide)) (
  kc (ok_cm_ge dX6_stands_3 (by decide)) (
  kc (ok_aload_n dX6_stands_6 rfl) (
  kc (ok_get (T := TX6) (k := 4) dX6_stands_7 rfl hin_X6 (by decide) hw_657) (
  kc (ok_iload_n dX6_stands_10 rfl) (
  kc (ok_iaload dX6_stands_11) (
  kc (ok_goto dX6_stands_12 (by decide)) (
  kc (ok_iload_n dX6_stands_15 rfl) (
  kc (ok_bipush dX6_stands_16 (by decide)) (
  kc (ok_isub dX6_stands_18) (
  kc (ok_retI dX6_stands_19 rfl) (
  kn))))))))))))
def cd_X6_isOver : List (Nat × qOp) := [
  (0, oLdA 0 1),
  (1, oGet 6 9 4),
  (4, oLdI 1 5),
  (5, oBin (fun x y => x >>> (y &&& 31)) 6),
  (6, oI (1) 7),
  (7, oBin (fun x y => x &&& y) 8),
  (8, oI (1) 9),
  (9, oCmNe 16 12),
  (12, oI (1) 13),
  (13, oGoto 17),
  (16, oI (0) 17),
  (17, oRetZ)]
set_option maxRecDepth 100000 in
theorem ck_X6_isOver {ini : Bool} : ∀ x ∈ cd_X6_isOver, OpOK qMT cX6_isOver RX6 2 (some .boolean) ini 0 0 none x.1 x.2 :=
  kc (ok_aload_n dX6_isOver_0 rfl) (
  kc (ok_get (T := TX6) (k := 9) dX6_isOver_1 rfl hin_X6 (by decide) hw_662) (
  kc (ok_iload_n dX6_isOver_4 rfl) (
  kc (ok_ishr dX6_isOver_5) (
  kc (ok_iconst dX6_isOver_6 (by decide)) (
  kc (ok_iand dX6_isOver_7) (
  kc (ok_iconst dX6_isOver_8 (by decide)) (
  kc (ok_cm_ne dX6_isOver_9 (by decide)) (
  kc (ok_iconst dX6_isOver_12 (by decide)) (
  kc (ok_goto dX6_isOver_13 (by decide)) (
  kc (ok_iconst dX6_isOver_16 (by decide)) (
  kc (ok_retZ dX6_isOver_17 rfl) (
  kn))))))))))))
def cd_X6_ends : List (Nat × qOp) := [
  (0, oI (0) 1),
  (1, oStI 1 2),
  (2, oI (0) 3),
  (3, oStI 2 4),
  (4, oLdI 2 5),
  (5, oLdA 0 6),
  (6, oGet 6 6 9),
  (9, oCmGe 125 12),
  (12, oLdA 0 13),
  (13, oLdA 0 14),
  (14, oGet 6 7 17),
  (17, oLdI 2 18),
  (18, oALd 19),
  (19, oCallV 107 6 1 0 0 0 0 22),
  (22, oStI 3 23),
  (23, oLdA 0 24),
  (24, oLdA 0 25),
  (25, oGet 6 8 28),
  (28, oLdI 2 29),
  (29, oALd 30),
  (30, oCallV 107 6 1 0 0 0 0 33),
  (33, oStI 4 35),
  (35, oLdI 3 36),
  (36, oLdI 4 38),
  (38, oCmNe 47 41),
  (41, oLdI 3 42),
  (42, oI (6) 44),
  (44, oCmLt 70 47),
  (47, oLdA 0 48),
  (48, oGet 6 2 51),
  (51, oI (1) 52),
  (52, oALd 53),
  (53, oI (1) 54),
  (54, oCmNe 74 57),
  (57, oLdI 3 58),
  (58, oI (6) 60),
  (60, oCmEq 70 63),
  (63, oLdI 4 65),
  (65, oI (6) 67),
  (67, oCmNe 74 70),
  (70, oI (1) 71),
  (71, oGoto 75),
  (74, oI (0) 75),
  (75, oStI 5 77),
  (77, oLdI 1 78),
  (78, oLdI 5 80),
  (80, oIfEq 95 83),
  (83, oLdA 0 84),
  (84, oLdI 2 85),
  (85, oCallV 108 6 1 0 0 0 0 88),
  (88, oIfNe 95 91),
  (91, oI (1) 92),
  (92, oGoto 96),
  (95, oI (0) 96),
  (96, oBin (fun x y => x + y) 97),
  (97, oStI 1 98),
  (98, oLdA 0 99),
  (99, oDup 100),
  (100, oGet 6 9 103),
  (103, oLdI 5 105),
  (105, oIfEq 114 108),
  (108, oI (1) 109),
  (109, oLdI 2 110),
  (110, oBin (fun x y => x <<< (y &&& 31)) 111),
  (111, oGoto 115),
  (114, oI (0) 115),
  (115, oBin (fun x y => x ||| y) 116),
  (116, oPutI 6 9 119),
  (119, oInc 2 (1) 122),
  (122, oGoto 4),
  (125, oLdI 1 126),
  (126, oRetI)]
set_option maxRecDepth 100000 in
theorem ck_X6_ends {ini : Bool} : ∀ x ∈ cd_X6_ends, OpOK qMT cX6_ends RX6 6 (some .int) ini 0 0 none x.1 x.2 :=
  kc (ok_iconst dX6_ends_0 (by decide)) (
  kc (ok_istore_n dX6_ends_1 rfl) (
  kc (ok_iconst dX6_ends_2 (by decide)) (
  kc (ok_istore_n dX6_ends_3 rfl) (
  kc (ok_iload_n dX6_ends_4 rfl) (
  kc (ok_aload_n dX6_ends_5 rfl) (
  kc (ok_get (T := TX6) (k := 6) dX6_ends_6 rfl hin_X6 (by decide) hw_659) (
  kc (ok_cm_ge dX6_ends_9 (by decide)) (
  kc (ok_aload_n dX6_ends_12 rfl) (
  kc (ok_aload_n dX6_ends_13 rfl) (
  kc (ok_get (T := TX6) (k := 7) dX6_ends_14 rfl hin_X6 (by decide) hw_660) (
  kc (ok_iload_n dX6_ends_17 rfl) (
  kc (ok_iaload dX6_ends_18) (
  kc (ok_callV (T := TX6) dX6_ends_19 qm_107 rfl rfl rfl hw_762 hw_764 hw_19 qp_107) (
  kc (ok_istore_n dX6_ends_22 rfl) (
  kc (ok_aload_n dX6_ends_23 rfl) (
  kc (ok_aload_n dX6_ends_24 rfl) (
  kc (ok_get (T := TX6) (k := 8) dX6_ends_25 rfl hin_X6 (by decide) hw_661) (
  kc (ok_iload_n dX6_ends_28 rfl) (
  kc (ok_iaload dX6_ends_29) (
  kc (ok_callV (T := TX6) dX6_ends_30 qm_107 rfl rfl rfl hw_762 hw_764 hw_19 qp_107) (
  kc (ok_istore dX6_ends_33) (
  kc (ok_iload_n dX6_ends_35 rfl) (
  kc (ok_iload dX6_ends_36) (
  kc (ok_cm_ne dX6_ends_38 (by decide)) (
  kc (ok_iload_n dX6_ends_41 rfl) (
  kc (ok_bipush dX6_ends_42 (by decide)) (
  kc (ok_cm_lt dX6_ends_44 (by decide)) (
  kc (ok_aload_n dX6_ends_47 rfl) (
  kc (ok_get (T := TX6) (k := 2) dX6_ends_48 rfl hin_X6 (by decide) hw_655) (
  kc (ok_iconst dX6_ends_51 (by decide)) (
  kc (ok_iaload dX6_ends_52) (
  kc (ok_iconst dX6_ends_53 (by decide)) (
  kc (ok_cm_ne dX6_ends_54 (by decide)) (
  kc (ok_iload_n dX6_ends_57 rfl) (
  kc (ok_bipush dX6_ends_58 (by decide)) (
  kc (ok_cm_eq dX6_ends_60 (by decide)) (
  kc (ok_iload dX6_ends_63) (
  kc (ok_bipush dX6_ends_65 (by decide)) (
  kc (ok_cm_ne dX6_ends_67 (by decide)) (
  kc (ok_iconst dX6_ends_70 (by decide)) (
  kc (ok_goto dX6_ends_71 (by decide)) (
  kc (ok_iconst dX6_ends_74 (by decide)) (
  kc (ok_istore dX6_ends_75) (
  kc (ok_iload_n dX6_ends_77 rfl) (
  kc (ok_iload dX6_ends_78) (
  kc (ok_if_eq dX6_ends_80 (by decide)) (
  kc (ok_aload_n dX6_ends_83 rfl) (
  kc (ok_iload_n dX6_ends_84 rfl) (
  kc (ok_callV (T := TX6) dX6_ends_85 qm_108 rfl rfl rfl hw_766 hw_768 hw_20 qp_108) (
  kc (ok_if_ne dX6_ends_88 (by decide)) (
  kc (ok_iconst dX6_ends_91 (by decide)) (
  kc (ok_goto dX6_ends_92 (by decide)) (
  kc (ok_iconst dX6_ends_95 (by decide)) (
  kc (ok_iadd dX6_ends_96) (
  kc (ok_istore_n dX6_ends_97 rfl) (
  kc (ok_aload_n dX6_ends_98 rfl) (
  kc (ok_dup dX6_ends_99) (
  kc (ok_get (T := TX6) (k := 9) dX6_ends_100 rfl hin_X6 (by decide) hw_662) (
  kc (ok_iload dX6_ends_103) (
  kc (ok_if_eq dX6_ends_105 (by decide)) (
  kc (ok_iconst dX6_ends_108 (by decide)) (
  kc (ok_iload_n dX6_ends_109 rfl) (
  kc (ok_ishl dX6_ends_110) (
  kc (ok_goto dX6_ends_111 (by decide)) (
  kc (ok_iconst dX6_ends_114 (by decide)) (
  kc (ok_ior dX6_ends_115) (
  kc (ok_putI (T := TX6) (k := 9) dX6_ends_116 rfl hin_X6 tyX6_ok nmX6 (by decide) hw_662 rfl (tyX6_ok 9 (by decide))) (
  kc (ok_iinc dX6_ends_119 (by decide)) (
  kc (ok_goto dX6_ends_122 (by decide)) (
  kc (ok_iload_n dX6_ends_125 rfl) (
  kc (ok_retI dX6_ends_126 rfl) (
  kn))))))))))))))))))))))))))))))))))))))))))))))))))))))))))))))))))))))))
def cd_X6_person : List (Nat × qOp) := [
  (0, oLdI 1 1),
  (1, oCallS 104 1 0 0 0 0 4),
  (4, oIfEq 39 7),
  (7, oLdI 2 8),
  (8, oI2L 9),
  (9, oL (0) 10),
  (10, oL (1) 11),
  (11, oCallS 102 3 0 0 0 0 14),
  (14, oIfEq 39 17),
  (17, oLdI 3 18),
  (18, oI2L 19),
  (19, oL (0) 20),
  (20, oLdI 2 21),
  (21, oIfNe 30 24),
  (24, oL (999) 27),
  (27, oGoto 33),
  (30, oL (99) 33),
  (33, oCallS 102 3 0 0 0 0 36),
  (36, oIfNe 41 39),
  (39, oI (-1) 40),
  (40, oRetI),
  (41, oLdI 2 42),
  (42, oIfNe 54 45),
  (45, oLdA 0 46),
  (46, oGet 6 0 49),
  (49, oLdI 1 50),
  (50, oALd 51),
  (51, oGoto 60),
  (54, oLdA 0 55),
  (55, oGet 6 1 58),
  (58, oLdI 1 59),
  (59, oALd 60),
  (60, oStI 4 62),
  (62, oLdI 2 63),
  (63, oIfNe 76 66),
  (66, oLdA 0 67),
  (67, oGet 6 0 70),
  (70, oLdI 1 71),
  (71, oLdI 3 72),
  (72, oASt 73),
  (73, oGoto 83),
  (76, oLdA 0 77),
  (77, oGet 6 1 80),
  (80, oLdI 1 81),
  (81, oLdI 3 82),
  (82, oASt 83),
  (83, oLdI 4 85),
  (85, oRetI)]
set_option maxRecDepth 100000 in
theorem ck_X6_person {ini : Bool} : ∀ x ∈ cd_X6_person, OpOK qMT cX6_person RX6 5 (some .int) ini 0 0 none x.1 x.2 :=
  kc (ok_iload_n dX6_person_0 rfl) (
  kc (ok_callS dX6_person_1 qm_104 rfl rfl hw_745 hw_746 qp_104) (
  kc (ok_if_eq dX6_person_4 (by decide)) (
  kc (ok_iload_n dX6_person_7 rfl) (
  kc (ok_i2l dX6_person_8) (
  kc (ok_lconst dX6_person_9 (by decide)) (
  kc (ok_lconst dX6_person_10 (by decide)) (
  kc (ok_callS dX6_person_11 qm_102 rfl rfl hw_749 hw_750 qp_102) (
  kc (ok_if_eq dX6_person_14 (by decide)) (
  kc (ok_iload_n dX6_person_17 rfl) (
  kc (ok_i2l dX6_person_18) (
  kc (ok_lconst dX6_person_19 (by decide)) (
  kc (ok_iload_n dX6_person_20 rfl) (
  kc (ok_if_ne dX6_person_21 (by decide)) (
  kc (ok_ldc2 dX6_person_24 hw_752) (
  kc (ok_goto dX6_person_27 (by decide)) (
  kc (ok_ldc2 dX6_person_30 hw_753) (
  kc (ok_callS dX6_person_33 qm_102 rfl rfl hw_749 hw_750 qp_102) (
  kc (ok_if_ne dX6_person_36 (by decide)) (
  kc (ok_iconst dX6_person_39 (by decide)) (
  kc (ok_retI dX6_person_40 rfl) (
  kc (ok_iload_n dX6_person_41 rfl) (
  kc (ok_if_ne dX6_person_42 (by decide)) (
  kc (ok_aload_n dX6_person_45 rfl) (
  kc (ok_get (T := TX6) (k := 0) dX6_person_46 rfl hin_X6 (by decide) hw_653) (
  kc (ok_iload_n dX6_person_49 rfl) (
  kc (ok_iaload dX6_person_50) (
  kc (ok_goto dX6_person_51 (by decide)) (
  kc (ok_aload_n dX6_person_54 rfl) (
  kc (ok_get (T := TX6) (k := 1) dX6_person_55 rfl hin_X6 (by decide) hw_654) (
  kc (ok_iload_n dX6_person_58 rfl) (
  kc (ok_iaload dX6_person_59) (
  kc (ok_istore dX6_person_60) (
  kc (ok_iload_n dX6_person_62 rfl) (
  kc (ok_if_ne dX6_person_63 (by decide)) (
  kc (ok_aload_n dX6_person_66 rfl) (
  kc (ok_get (T := TX6) (k := 0) dX6_person_67 rfl hin_X6 (by decide) hw_653) (
  kc (ok_iload_n dX6_person_70 rfl) (
  kc (ok_iload_n dX6_person_71 rfl) (
  kc (ok_iastore dX6_person_72) (
  kc (ok_goto dX6_person_73 (by decide)) (
  kc (ok_aload_n dX6_person_76 rfl) (
  kc (ok_get (T := TX6) (k := 1) dX6_person_77 rfl hin_X6 (by decide) hw_654) (
  kc (ok_iload_n dX6_person_80 rfl) (
  kc (ok_iload_n dX6_person_81 rfl) (
  kc (ok_iastore dX6_person_82) (
  kc (ok_iload dX6_person_83) (
  kc (ok_retI dX6_person_85 rfl) (
  kn))))))))))))))))))))))))))))))))))))))))))))))))
def cd_X6_rule : List (Nat × qOp) := [
  (0, oLdI 1 1),
  (1, oI2L 2),
  (2, oL (0) 3),
  (3, oL (1) 4),
  (4, oCallS 102 3 0 0 0 0 7),
  (7, oIfEq 20 10),
  (10, oLdI 2 11),
  (11, oI2L 12),
  (12, oL (0) 13),
  (13, oL (1) 14),
  (14, oCallS 102 3 0 0 0 0 17),
  (17, oIfNe 22 20),
  (20, oI (-1) 21),
  (21, oRetI),
  (22, oLdA 0 23),
  (23, oGet 6 2 26),
  (26, oLdI 1 27),
  (27, oALd 28),
  (28, oStI 3 29),
  (29, oLdA 0 30),
  (30, oGet 6 2 33),
  (33, oLdI 1 34),
  (34, oLdI 2 35),
  (35, oASt 36),
  (36, oLdA 0 37),
  (37, oCallV 109 6 0 0 0 0 0 40),
  (40, oPop 41),
  (41, oLdI 3 42),
  (42, oRetI)]
set_option maxRecDepth 100000 in
theorem ck_X6_rule {ini : Bool} : ∀ x ∈ cd_X6_rule, OpOK qMT cX6_rule RX6 4 (some .int) ini 0 0 none x.1 x.2 :=
  kc (ok_iload_n dX6_rule_0 rfl) (
  kc (ok_i2l dX6_rule_1) (
  kc (ok_lconst dX6_rule_2 (by decide)) (
  kc (ok_lconst dX6_rule_3 (by decide)) (
  kc (ok_callS dX6_rule_4 qm_102 rfl rfl hw_749 hw_750 qp_102) (
  kc (ok_if_eq dX6_rule_7 (by decide)) (
  kc (ok_iload_n dX6_rule_10 rfl) (
  kc (ok_i2l dX6_rule_11) (
  kc (ok_lconst dX6_rule_12 (by decide)) (
  kc (ok_lconst dX6_rule_13 (by decide)) (
  kc (ok_callS dX6_rule_14 qm_102 rfl rfl hw_749 hw_750 qp_102) (
  kc (ok_if_ne dX6_rule_17 (by decide)) (
  kc (ok_iconst dX6_rule_20 (by decide)) (
  kc (ok_retI dX6_rule_21 rfl) (
  kc (ok_aload_n dX6_rule_22 rfl) (
  kc (ok_get (T := TX6) (k := 2) dX6_rule_23 rfl hin_X6 (by decide) hw_655) (
  kc (ok_iload_n dX6_rule_26 rfl) (
  kc (ok_iaload dX6_rule_27) (
  kc (ok_istore_n dX6_rule_28 rfl) (
  kc (ok_aload_n dX6_rule_29 rfl) (
  kc (ok_get (T := TX6) (k := 2) dX6_rule_30 rfl hin_X6 (by decide) hw_655) (
  kc (ok_iload_n dX6_rule_33 rfl) (
  kc (ok_iload_n dX6_rule_34 rfl) (
  kc (ok_iastore dX6_rule_35) (
  kc (ok_aload_n dX6_rule_36 rfl) (
  kc (ok_callV (T := TX6) dX6_rule_37 qm_109 rfl rfl rfl hw_758 hw_760 hw_18 qp_109) (
  kc (ok_pop dX6_rule_40) (
  kc (ok_iload_n dX6_rule_41 rfl) (
  kc (ok_retI dX6_rule_42 rfl) (
  kn)))))))))))))))))))))))))))))
def cd_X6_thing : List (Nat × qOp) := [
  (0, oLdI 1 1),
  (1, oI2L 2),
  (2, oL (0) 3),
  (3, oL (6) 6),
  (6, oCallS 102 3 0 0 0 0 9),
  (9, oIfNe 14 12),
  (12, oI (-1) 13),
  (13, oRetI),
  (14, oLdA 0 15),
  (15, oGet 6 3 18),
  (18, oI (8) 20),
  (20, oCmNe 26 23),
  (23, oI (-3) 25),
  (25, oRetI),
  (26, oLdA 0 27),
  (27, oGet 6 4 30),
  (30, oLdA 0 31),
  (31, oGet 6 3 34),
  (34, oLdI 1 35),
  (35, oASt 36),
  (36, oI (0) 37),
  (37, oStI 2 38),
  (38, oLdI 2 39),
  (39, oI (6) 41),
  (41, oCmGe 65 44),
  (44, oLdA 0 45),
  (45, oGet 6 5 48),
  (48, oI (6) 50),
  (50, oLdA 0 51),
  (51, oGet 6 3 54),
  (54, oBin (fun x y => x * y) 55),
  (55, oLdI 2 56),
  (56, oBin (fun x y => x + y) 57),
  (57, oI (5) 58),
  (58, oASt 59),
  (59, oInc 2 (1) 62),
  (62, oGoto 38),
  (65, oLdA 0 66),
  (66, oDup 67),
  (67, oGet 6 3 70),
  (70, oI (1) 71),
  (71, oBin (fun x y => x + y) 72),
  (72, oPutI 6 3 75),
  (75, oLdA 0 76),
  (76, oGet 6 3 79),
  (79, oI (1) 80),
  (80, oBin (fun x y => x - y) 81),
  (81, oRetI)]
set_option maxRecDepth 100000 in
theorem ck_X6_thing {ini : Bool} : ∀ x ∈ cd_X6_thing, OpOK qMT cX6_thing RX6 3 (some .int) ini 0 0 none x.1 x.2 :=
  kc (ok_iload_n dX6_thing_0 rfl) (
  kc (ok_i2l dX6_thing_1) (
  kc (ok_lconst dX6_thing_2 (by decide)) (
  kc (ok_ldc2 dX6_thing_3 hw_774) (
  kc (ok_callS dX6_thing_6 qm_102 rfl rfl hw_749 hw_750 qp_102) (
  kc (ok_if_ne dX6_thing_9 (by decide)) (
  kc (ok_iconst dX6_thing_12 (by decide)) (
  kc (ok_retI dX6_thing_13 rfl) (
  kc (ok_aload_n dX6_thing_14 rfl) (
  kc (ok_get (T := TX6) (k := 3) dX6_thing_15 rfl hin_X6 (by decide) hw_656) (
  kc (ok_bipush dX6_thing_18 (by decide)) (
  kc (ok_cm_ne dX6_thing_20 (by decide)) (
  kc (ok_bipush dX6_thing_23 (by decide)) (
  kc (ok_retI dX6_thing_25 rfl) (
  kc (ok_aload_n dX6_thing_26 rfl) (
  kc (ok_get (T := TX6) (k := 4) dX6_thing_27 rfl hin_X6 (by decide) hw_657) (
  kc (ok_aload_n dX6_thing_30 rfl) (
  kc (ok_get (T := TX6) (k := 3) dX6_thing_31 rfl hin_X6 (by decide) hw_656) (
  kc (ok_iload_n dX6_thing_34 rfl) (
  kc (ok_iastore dX6_thing_35) (
  kc (ok_iconst dX6_thing_36 (by decide)) (
  kc (ok_istore_n dX6_thing_37 rfl) (
  kc (ok_iload_n dX6_thing_38 rfl) (
  kc (ok_bipush dX6_thing_39 (by decide)) (
  kc (ok_cm_ge dX6_thing_41 (by decide)) (
  kc (ok_aload_n dX6_thing_44 rfl) (
  kc (ok_get (T := TX6) (k := 5) dX6_thing_45 rfl hin_X6 (by decide) hw_658) (
  kc (ok_bipush dX6_thing_48 (by decide)) (
  kc (ok_aload_n dX6_thing_50 rfl) (
  kc (ok_get (T := TX6) (k := 3) dX6_thing_51 rfl hin_X6 (by decide) hw_656) (
  kc (ok_imul dX6_thing_54) (
  kc (ok_iload_n dX6_thing_55 rfl) (
  kc (ok_iadd dX6_thing_56) (
  kc (ok_iconst dX6_thing_57 (by decide)) (
  kc (ok_iastore dX6_thing_58) (
  kc (ok_iinc dX6_thing_59 (by decide)) (
  kc (ok_goto dX6_thing_62 (by decide)) (
  kc (ok_aload_n dX6_thing_65 rfl) (
  kc (ok_dup dX6_thing_66) (
  kc (ok_get (T := TX6) (k := 3) dX6_thing_67 rfl hin_X6 (by decide) hw_656) (
  kc (ok_iconst dX6_thing_70 (by decide)) (
  kc (ok_iadd dX6_thing_71) (
  kc (ok_putI (T := TX6) (k := 3) dX6_thing_72 rfl hin_X6 tyX6_ok nmX6 (by decide) hw_656 rfl (tyX6_ok 3 (by decide))) (
  kc (ok_aload_n dX6_thing_75 rfl) (
  kc (ok_get (T := TX6) (k := 3) dX6_thing_76 rfl hin_X6 (by decide) hw_656) (
  kc (ok_iconst dX6_thing_79 (by decide)) (
  kc (ok_isub dX6_thing_80) (
  kc (ok_retI dX6_thing_81 rfl) (
  kn))))))))))))))))))))))))))))))))))))))))))))))))
def cd_X6_worth : List (Nat × qOp) := [
  (0, oLdA 0 1),
  (1, oLdI 1 2),
  (2, oCallV 105 6 1 0 0 0 0 5),
  (5, oIfEq 27 8),
  (8, oLdI 2 9),
  (9, oCallS 104 1 0 0 0 0 12),
  (12, oIfEq 27 15),
  (15, oLdI 3 16),
  (16, oI2L 17),
  (17, oL (0) 18),
  (18, oL (99) 21),
  (21, oCallS 102 3 0 0 0 0 24),
  (24, oIfNe 29 27),
  (27, oI (-1) 28),
  (28, oRetI),
  (29, oLdA 0 30),
  (30, oGet 6 5 33),
  (33, oI (6) 35),
  (35, oLdI 1 36),
  (36, oBin (fun x y => x * y) 37),
  (37, oLdI 2 38),
  (38, oBin (fun x y => x + y) 39),
  (39, oALd 40),
  (40, oStI 4 42),
  (42, oLdA 0 43),
  (43, oGet 6 5 46),
  (46, oI (6) 48),
  (48, oLdI 1 49),
  (49, oBin (fun x y => x * y) 50),
  (50, oLdI 2 51),
  (51, oBin (fun x y => x + y) 52),
  (52, oLdI 3 53),
  (53, oASt 54),
  (54, oLdI 4 56),
  (56, oRetI)]
set_option maxRecDepth 100000 in
theorem ck_X6_worth {ini : Bool} : ∀ x ∈ cd_X6_worth, OpOK qMT cX6_worth RX6 5 (some .int) ini 0 0 none x.1 x.2 :=
  kc (ok_aload_n dX6_worth_0 rfl) (
  kc (ok_iload_n dX6_worth_1 rfl) (
  kc (ok_callV (T := TX6) dX6_worth_2 qm_105 rfl rfl rfl hw_779 hw_781 hw_21 qp_105) (
  kc (ok_if_eq dX6_worth_5 (by decide)) (
  kc (ok_iload_n dX6_worth_8 rfl) (
  kc (ok_callS dX6_worth_9 qm_104 rfl rfl hw_745 hw_746 qp_104) (
  kc (ok_if_eq dX6_worth_12 (by decide)) (
  kc (ok_iload_n dX6_worth_15 rfl) (
  kc (ok_i2l dX6_worth_16) (
  kc (ok_lconst dX6_worth_17 (by decide)) (
  kc (ok_ldc2 dX6_worth_18 hw_753) (
  kc (ok_callS dX6_worth_21 qm_102 rfl rfl hw_749 hw_750 qp_102) (
  kc (ok_if_ne dX6_worth_24 (by decide)) (
  kc (ok_iconst dX6_worth_27 (by decide)) (
  kc (ok_retI dX6_worth_28 rfl) (
  kc (ok_aload_n dX6_worth_29 rfl) (
  kc (ok_get (T := TX6) (k := 5) dX6_worth_30 rfl hin_X6 (by decide) hw_658) (
  kc (ok_bipush dX6_worth_33 (by decide)) (
  kc (ok_iload_n dX6_worth_35 rfl) (
  kc (ok_imul dX6_worth_36) (
  kc (ok_iload_n dX6_worth_37 rfl) (
  kc (ok_iadd dX6_worth_38) (
  kc (ok_iaload dX6_worth_39) (
  kc (ok_istore dX6_worth_40) (
  kc (ok_aload_n dX6_worth_42 rfl) (
  kc (ok_get (T := TX6) (k := 5) dX6_worth_43 rfl hin_X6 (by decide) hw_658) (
  kc (ok_bipush dX6_worth_46 (by decide)) (
  kc (ok_iload_n dX6_worth_48 rfl) (
  kc (ok_imul dX6_worth_49) (
  kc (ok_iload_n dX6_worth_50 rfl) (
  kc (ok_iadd dX6_worth_51) (
  kc (ok_iload_n dX6_worth_52 rfl) (
  kc (ok_iastore dX6_worth_53) (
  kc (ok_iload dX6_worth_54) (
  kc (ok_retI dX6_worth_56 rfl) (
  kn)))))))))))))))))))))))))))))))))))
def cd_X6_comes : List (Nat × qOp) := [
  (0, oLdA 0 1),
  (1, oGet 6 7 4),
  (4, oLdA 0 5),
  (5, oGet 6 6 8),
  (8, oLdI 1 9),
  (9, oASt 10),
  (10, oLdA 0 11),
  (11, oGet 6 8 14),
  (14, oLdA 0 15),
  (15, oGet 6 6 18),
  (18, oLdI 2 19),
  (19, oASt 20),
  (20, oLdA 0 21),
  (21, oDup 22),
  (22, oGet 6 9 25),
  (25, oI (1) 26),
  (26, oLdA 0 27),
  (27, oGet 6 6 30),
  (30, oBin (fun x y => x <<< (y &&& 31)) 31),
  (31, oI (-1) 32),
  (32, oBin (fun x y => x ^^^ y) 33),
  (33, oBin (fun x y => x &&& y) 34),
  (34, oPutI 6 9 37),
  (37, oLdA 0 38),
  (38, oDup 39),
  (39, oGet 6 6 42),
  (42, oI (1) 43),
  (43, oBin (fun x y => x + y) 44),
  (44, oPutI 6 6 47),
  (47, oLdA 0 48),
  (48, oCallV 109 6 0 0 0 0 0 51),
  (51, oPop 52),
  (52, oLdA 0 53),
  (53, oGet 6 6 56),
  (56, oI (1) 57),
  (57, oBin (fun x y => x - y) 58),
  (58, oRetI)]
set_option maxRecDepth 100000 in
theorem ck_X6_comes {ini : Bool} : ∀ x ∈ cd_X6_comes, OpOK qMT cX6_comes RX6 3 (some .int) ini 0 0 none x.1 x.2 :=
  kc (ok_aload_n dX6_comes_0 rfl) (
  kc (ok_get (T := TX6) (k := 7) dX6_comes_1 rfl hin_X6 (by decide) hw_660) (
  kc (ok_aload_n dX6_comes_4 rfl) (
  kc (ok_get (T := TX6) (k := 6) dX6_comes_5 rfl hin_X6 (by decide) hw_659) (
  kc (ok_iload_n dX6_comes_8 rfl) (
  kc (ok_iastore dX6_comes_9) (
  kc (ok_aload_n dX6_comes_10 rfl) (
  kc (ok_get (T := TX6) (k := 8) dX6_comes_11 rfl hin_X6 (by decide) hw_661) (
  kc (ok_aload_n dX6_comes_14 rfl) (
  kc (ok_get (T := TX6) (k := 6) dX6_comes_15 rfl hin_X6 (by decide) hw_659) (
  kc (ok_iload_n dX6_comes_18 rfl) (
  kc (ok_iastore dX6_comes_19) (
  kc (ok_aload_n dX6_comes_20 rfl) (
  kc (ok_dup dX6_comes_21) (
  kc (ok_get (T := TX6) (k := 9) dX6_comes_22 rfl hin_X6 (by decide) hw_662) (
  kc (ok_iconst dX6_comes_25 (by decide)) (
  kc (ok_aload_n dX6_comes_26 rfl) (
  kc (ok_get (T := TX6) (k := 6) dX6_comes_27 rfl hin_X6 (by decide) hw_659) (
  kc (ok_ishl dX6_comes_30) (
  kc (ok_iconst dX6_comes_31 (by decide)) (
  kc (ok_ixor dX6_comes_32) (
  kc (ok_iand dX6_comes_33) (
  kc (ok_putI (T := TX6) (k := 9) dX6_comes_34 rfl hin_X6 tyX6_ok nmX6 (by decide) hw_662 rfl (tyX6_ok 9 (by decide))) (
  kc (ok_aload_n dX6_comes_37 rfl) (
  kc (ok_dup dX6_comes_38) (
  kc (ok_get (T := TX6) (k := 6) dX6_comes_39 rfl hin_X6 (by decide) hw_659) (
  kc (ok_iconst dX6_comes_42 (by decide)) (
  kc (ok_iadd dX6_comes_43) (
  kc (ok_putI (T := TX6) (k := 6) dX6_comes_44 rfl hin_X6 tyX6_ok nmX6 (by decide) hw_659 rfl (tyX6_ok 6 (by decide))) (
  kc (ok_aload_n dX6_comes_47 rfl) (
  kc (ok_callV (T := TX6) dX6_comes_48 qm_109 rfl rfl rfl hw_758 hw_760 hw_18 qp_109) (
  kc (ok_pop dX6_comes_51) (
  kc (ok_aload_n dX6_comes_52 rfl) (
  kc (ok_get (T := TX6) (k := 6) dX6_comes_53 rfl hin_X6 (by decide) hw_659) (
  kc (ok_iconst dX6_comes_56 (by decide)) (
  kc (ok_isub dX6_comes_57) (
  kc (ok_retI dX6_comes_58 rfl) (
  kn)))))))))))))))))))))))))))))))))))))
def cd_X6_suit : List (Nat × qOp) := [
  (0, oLdA 0 1),
  (1, oLdI 1 2),
  (2, oCallV 106 6 1 0 0 0 0 5),
  (5, oIfEq 21 8),
  (8, oLdA 0 9),
  (9, oLdI 2 10),
  (10, oCallV 106 6 1 0 0 0 0 13),
  (13, oIfEq 21 16),
  (16, oLdI 1 17),
  (17, oLdI 2 18),
  (18, oCmNe 23 21),
  (21, oI (-1) 22),
  (22, oRetI),
  (23, oLdA 0 24),
  (24, oGet 6 6 27),
  (27, oI (12) 29),
  (29, oCmNe 37 32),
  (32, oI (-3) 34),
  (34, oGoto 43),
  (37, oLdA 0 38),
  (38, oLdI 1 39),
  (39, oLdI 2 40),
  (40, oCallV 114 6 2 0 0 0 0 43),
  (43, oRetI)]
set_option maxRecDepth 100000 in
theorem ck_X6_suit {ini : Bool} : ∀ x ∈ cd_X6_suit, OpOK qMT cX6_suit RX6 3 (some .int) ini 0 0 none x.1 x.2 :=
  kc (ok_aload_n dX6_suit_0 rfl) (
  kc (ok_iload_n dX6_suit_1 rfl) (
  kc (ok_callV (T := TX6) dX6_suit_2 qm_106 rfl rfl rfl hw_787 hw_789 hw_22 qp_106) (
  kc (ok_if_eq dX6_suit_5 (by decide)) (
  kc (ok_aload_n dX6_suit_8 rfl) (
  kc (ok_iload_n dX6_suit_9 rfl) (
  kc (ok_callV (T := TX6) dX6_suit_10 qm_106 rfl rfl rfl hw_787 hw_789 hw_22 qp_106) (
  kc (ok_if_eq dX6_suit_13 (by decide)) (
  kc (ok_iload_n dX6_suit_16 rfl) (
  kc (ok_iload_n dX6_suit_17 rfl) (
  kc (ok_cm_ne dX6_suit_18 (by decide)) (
  kc (ok_iconst dX6_suit_21 (by decide)) (
  kc (ok_retI dX6_suit_22 rfl) (
  kc (ok_aload_n dX6_suit_23 rfl) (
  kc (ok_get (T := TX6) (k := 6) dX6_suit_24 rfl hin_X6 (by decide) hw_659) (
  kc (ok_bipush dX6_suit_27 (by decide)) (
  kc (ok_cm_ne dX6_suit_29 (by decide)) (
  kc (ok_bipush dX6_suit_32 (by decide)) (
  kc (ok_goto dX6_suit_34 (by decide)) (
  kc (ok_aload_n dX6_suit_37 rfl) (
  kc (ok_iload_n dX6_suit_38 rfl) (
  kc (ok_iload_n dX6_suit_39 rfl) (
  kc (ok_callV (T := TX6) dX6_suit_40 qm_114 rfl rfl rfl hw_793 hw_795 hw_23 qp_114) (
  kc (ok_retI dX6_suit_43 rfl) (
  kn))))))))))))))))))))))))
def cd_X6_told : List (Nat × qOp) := [
  (0, oLdI 1 1),
  (1, oI2L 2),
  (2, oL (0) 3),
  (3, oLdA 0 4),
  (4, oGet 6 6 7),
  (7, oI (1) 8),
  (8, oBin (fun x y => x - y) 9),
  (9, oI2L 10),
  (10, oCallS 102 3 0 0 0 0 13),
  (13, oIfEq 28 16),
  (16, oLdI 2 17),
  (17, oI2L 18),
  (18, oL (0) 19),
  (19, oL (4) 22),
  (22, oCallS 102 3 0 0 0 0 25),
  (25, oIfNe 30 28),
  (28, oI (-1) 29),
  (29, oRetI),
  (30, oLdI 2 31),
  (31, oSw (0) [60, 67, 74, 85] 96),
  (60, oLdA 0 61),
  (61, oGet 6 7 64),
  (64, oLdI 1 65),
  (65, oALd 66),
  (66, oRetI),
  (67, oLdA 0 68),
  (68, oGet 6 8 71),
  (71, oLdI 1 72),
  (72, oALd 73),
  (73, oRetI),
  (74, oLdA 0 75),
  (75, oLdA 0 76),
  (76, oGet 6 7 79),
  (79, oLdI 1 80),
  (80, oALd 81),
  (81, oCallV 107 6 1 0 0 0 0 84),
  (84, oRetI),
  (85, oLdA 0 86),
  (86, oLdA 0 87),
  (87, oGet 6 8 90),
  (90, oLdI 1 91),
  (91, oALd 92),
  (92, oCallV 107 6 1 0 0 0 0 95),
  (95, oRetI),
  (96, oLdA 0 97),
  (97, oGet 6 9 100),
  (100, oLdI 1 101),
  (101, oBin (fun x y => x >>> (y &&& 31)) 102),
  (102, oI (1) 103),
  (103, oBin (fun x y => x &&& y) 104),
  (104, oRetI)]
set_option maxRecDepth 100000 in
theorem ck_X6_told {ini : Bool} : ∀ x ∈ cd_X6_told, OpOK qMT cX6_told RX6 3 (some .int) ini 0 0 none x.1 x.2 :=
  kc (ok_iload_n dX6_told_0 rfl) (
  kc (ok_i2l dX6_told_1) (
  kc (ok_lconst dX6_told_2 (by decide)) (
  kc (ok_aload_n dX6_told_3 rfl) (
  kc (ok_get (T := TX6) (k := 6) dX6_told_4 rfl hin_X6 (by decide) hw_659) (
  kc (ok_iconst dX6_told_7 (by decide)) (
  kc (ok_isub dX6_told_8) (
  kc (ok_i2l dX6_told_9) (
  kc (ok_callS dX6_told_10 qm_102 rfl rfl hw_749 hw_750 qp_102) (
  kc (ok_if_eq dX6_told_13 (by decide)) (
  kc (ok_iload_n dX6_told_16 rfl) (
  kc (ok_i2l dX6_told_17) (
  kc (ok_lconst dX6_told_18 (by decide)) (
  kc (ok_ldc2 dX6_told_19 hw_801) (
  kc (ok_callS dX6_told_22 qm_102 rfl rfl hw_749 hw_750 qp_102) (
  kc (ok_if_ne dX6_told_25 (by decide)) (
  kc (ok_iconst dX6_told_28 (by decide)) (
  kc (ok_retI dX6_told_29 rfl) (
  kc (ok_iload_n dX6_told_30 rfl) (
  kc (ok_sw dX6_told_31 (by decide) (by decide) (by decide)) (
  kc (ok_aload_n dX6_told_60 rfl) (
  kc (ok_get (T := TX6) (k := 7) dX6_told_61 rfl hin_X6 (by decide) hw_660) (
  kc (ok_iload_n dX6_told_64 rfl) (
  kc (ok_iaload dX6_told_65) (
  kc (ok_retI dX6_told_66 rfl) (
  kc (ok_aload_n dX6_told_67 rfl) (
  kc (ok_get (T := TX6) (k := 8) dX6_told_68 rfl hin_X6 (by decide) hw_661) (
  kc (ok_iload_n dX6_told_71 rfl) (
  kc (ok_iaload dX6_told_72) (
  kc (ok_retI dX6_told_73 rfl) (
  kc (ok_aload_n dX6_told_74 rfl) (
  kc (ok_aload_n dX6_told_75 rfl) (
  kc (ok_get (T := TX6) (k := 7) dX6_told_76 rfl hin_X6 (by decide) hw_660) (
  kc (ok_iload_n dX6_told_79 rfl) (
  kc (ok_iaload dX6_told_80) (
  kc (ok_callV (T := TX6) dX6_told_81 qm_107 rfl rfl rfl hw_762 hw_764 hw_19 qp_107) (
  kc (ok_retI dX6_told_84 rfl) (
  kc (ok_aload_n dX6_told_85 rfl) (
  kc (ok_aload_n dX6_told_86 rfl) (
  kc (ok_get (T := TX6) (k := 8) dX6_told_87 rfl hin_X6 (by decide) hw_661) (
  kc (ok_iload_n dX6_told_90 rfl) (
  kc (ok_iaload dX6_told_91) (
  kc (ok_callV (T := TX6) dX6_told_92 qm_107 rfl rfl rfl hw_762 hw_764 hw_19 qp_107) (
  kc (ok_retI dX6_told_95 rfl) (
  kc (ok_aload_n dX6_told_96 rfl) (
  kc (ok_get (T := TX6) (k := 9) dX6_told_97 rfl hin_X6 (by decide) hw_662) (
  kc (ok_iload_n dX6_told_100 rfl) (
  kc (ok_ishr dX6_told_101) (
  kc (ok_iconst dX6_told_102 (by decide)) (
  kc (ok_iand dX6_told_103) (
  kc (ok_retI dX6_told_104 rfl) (
  kn)))))))))))))))))))))))))))))))))))))))))))))))))))
def cd_X6_hand : List (Nat × qOp) := [
  (0, oLdA 0 1),
  (1, oLdI 1 2),
  (2, oCallV 105 6 1 0 0 0 0 5),
  (5, oIfEq 17 8),
  (8, oLdA 0 9),
  (9, oGet 6 4 12),
  (12, oLdI 1 13),
  (13, oALd 14),
  (14, oGoto 18),
  (17, oI (-1) 18),
  (18, oRetI)]
set_option maxRecDepth 100000 in
theorem ck_X6_hand {ini : Bool} : ∀ x ∈ cd_X6_hand, OpOK qMT cX6_hand RX6 2 (some .int) ini 0 0 none x.1 x.2 :=
  kc (ok_aload_n dX6_hand_0 rfl) (
  kc (ok_iload_n dX6_hand_1 rfl) (
  kc (ok_callV (T := TX6) dX6_hand_2 qm_105 rfl rfl rfl hw_779 hw_781 hw_21 qp_105) (
  kc (ok_if_eq dX6_hand_5 (by decide)) (
  kc (ok_aload_n dX6_hand_8 rfl) (
  kc (ok_get (T := TX6) (k := 4) dX6_hand_9 rfl hin_X6 (by decide) hw_657) (
  kc (ok_iload_n dX6_hand_12 rfl) (
  kc (ok_iaload dX6_hand_13) (
  kc (ok_goto dX6_hand_14 (by decide)) (
  kc (ok_iconst dX6_hand_17 (by decide)) (
  kc (ok_retI dX6_hand_18 rfl) (
  kn)))))))))))
def cd_X6_purse : List (Nat × qOp) := [
  (0, oLdI 1 1),
  (1, oCallS 104 1 0 0 0 0 4),
  (4, oIfEq 16 7),
  (7, oLdA 0 8),
  (8, oGet 6 0 11),
  (11, oLdI 1 12),
  (12, oALd 13),
  (13, oGoto 17),
  (16, oI (-1) 17),
  (17, oRetI)]
set_option maxRecDepth 100000 in
theorem ck_X6_purse {ini : Bool} : ∀ x ∈ cd_X6_purse, OpOK qMT cX6_purse RX6 2 (some .int) ini 0 0 none x.1 x.2 :=
  kc (ok_iload_n dX6_purse_0 rfl) (
  kc (ok_callS dX6_purse_1 qm_104 rfl rfl hw_745 hw_746 qp_104) (
  kc (ok_if_eq dX6_purse_4 (by decide)) (
  kc (ok_aload_n dX6_purse_7 rfl) (
  kc (ok_get (T := TX6) (k := 0) dX6_purse_8 rfl hin_X6 (by decide) hw_653) (
  kc (ok_iload_n dX6_purse_11 rfl) (
  kc (ok_iaload dX6_purse_12) (
  kc (ok_goto dX6_purse_13 (by decide)) (
  kc (ok_iconst dX6_purse_16 (by decide)) (
  kc (ok_retI dX6_purse_17 rfl) (
  kn))))))))))
def cd_X6_standsIn : List (Nat × qOp) := [
  (0, oI (0) 1),
  (1, oStI 2 2),
  (2, oI (0) 3),
  (3, oStI 3 4),
  (4, oLdI 3 5),
  (5, oLdA 0 6),
  (6, oGet 6 6 9),
  (9, oCmGe 62 12),
  (12, oLdI 2 13),
  (13, oLdA 0 14),
  (14, oLdI 3 15),
  (15, oCallV 108 6 1 0 0 0 0 18),
  (18, oIfNe 53 21),
  (21, oLdA 0 22),
  (22, oLdA 0 23),
  (23, oGet 6 7 26),
  (26, oLdI 3 27),
  (27, oALd 28),
  (28, oCallV 107 6 1 0 0 0 0 31),
  (31, oLdI 1 32),
  (32, oCmEq 49 35),
  (35, oLdA 0 36),
  (36, oLdA 0 37),
  (37, oGet 6 8 40),
  (40, oLdI 3 41),
  (41, oALd 42),
  (42, oCallV 107 6 1 0 0 0 0 45),
  (45, oLdI 1 46),
  (46, oCmNe 53 49),
  (49, oI (1) 50),
  (50, oGoto 54),
  (53, oI (0) 54),
  (54, oBin (fun x y => x + y) 55),
  (55, oStI 2 56),
  (56, oInc 3 (1) 59),
  (59, oGoto 4),
  (62, oLdI 2 63),
  (63, oRetI)]
set_option maxRecDepth 100000 in
theorem ck_X6_standsIn {ini : Bool} : ∀ x ∈ cd_X6_standsIn, OpOK qMT cX6_standsIn RX6 4 (some .int) ini 0 0 none x.1 x.2 :=
  kc (ok_iconst dX6_standsIn_0 (by decide)) (
  kc (ok_istore_n dX6_standsIn_1 rfl) (
  kc (ok_iconst dX6_standsIn_2 (by decide)) (
  kc (ok_istore_n dX6_standsIn_3 rfl) (
  kc (ok_iload_n dX6_standsIn_4 rfl) (
  kc (ok_aload_n dX6_standsIn_5 rfl) (
  kc (ok_get (T := TX6) (k := 6) dX6_standsIn_6 rfl hin_X6 (by decide) hw_659) (
  kc (ok_cm_ge dX6_standsIn_9 (by decide)) (
  kc (ok_iload_n dX6_standsIn_12 rfl) (
  kc (ok_aload_n dX6_standsIn_13 rfl) (
  kc (ok_iload_n dX6_standsIn_14 rfl) (
  kc (ok_callV (T := TX6) dX6_standsIn_15 qm_108 rfl rfl rfl hw_766 hw_768 hw_20 qp_108) (
  kc (ok_if_ne dX6_standsIn_18 (by decide)) (
  kc (ok_aload_n dX6_standsIn_21 rfl) (
  kc (ok_aload_n dX6_standsIn_22 rfl) (
  kc (ok_get (T := TX6) (k := 7) dX6_standsIn_23 rfl hin_X6 (by decide) hw_660) (
  kc (ok_iload_n dX6_standsIn_26 rfl) (
  kc (ok_iaload dX6_standsIn_27) (
  kc (ok_callV (T := TX6) dX6_standsIn_28 qm_107 rfl rfl rfl hw_762 hw_764 hw_19 qp_107) (
  kc (ok_iload_n dX6_standsIn_31 rfl) (
  kc (ok_cm_eq dX6_standsIn_32 (by decide)) (
  kc (ok_aload_n dX6_standsIn_35 rfl) (
  kc (ok_aload_n dX6_standsIn_36 rfl) (
  kc (ok_get (T := TX6) (k := 8) dX6_standsIn_37 rfl hin_X6 (by decide) hw_661) (
  kc (ok_iload_n dX6_standsIn_40 rfl) (
  kc (ok_iaload dX6_standsIn_41) (
  kc (ok_callV (T := TX6) dX6_standsIn_42 qm_107 rfl rfl rfl hw_762 hw_764 hw_19 qp_107) (
  kc (ok_iload_n dX6_standsIn_45 rfl) (
  kc (ok_cm_ne dX6_standsIn_46 (by decide)) (
  kc (ok_iconst dX6_standsIn_49 (by decide)) (
  kc (ok_goto dX6_standsIn_50 (by decide)) (
  kc (ok_iconst dX6_standsIn_53 (by decide)) (
  kc (ok_iadd dX6_standsIn_54) (
  kc (ok_istore_n dX6_standsIn_55 rfl) (
  kc (ok_iinc dX6_standsIn_56 (by decide)) (
  kc (ok_goto dX6_standsIn_59 (by decide)) (
  kc (ok_iload_n dX6_standsIn_62 rfl) (
  kc (ok_retI dX6_standsIn_63 rfl) (
  kn))))))))))))))))))))))))))))))))))))))
def cd_X6_valueOf : List (Nat × qOp) := [
  (0, oLdA 0 1),
  (1, oGet 6 1 4),
  (4, oLdI 1 5),
  (5, oALd 6),
  (6, oUn (fun x => -x) 7),
  (7, oLdA 0 8),
  (8, oLdI 1 9),
  (9, oCallV 119 6 1 0 0 0 0 12),
  (12, oBin (fun x y => x * y) 13),
  (13, oStI 2 14),
  (14, oI (0) 15),
  (15, oStI 3 16),
  (16, oLdI 3 17),
  (17, oLdA 0 18),
  (18, oGet 6 3 21),
  (21, oCmGe 58 24),
  (24, oLdI 2 25),
  (25, oLdA 0 26),
  (26, oGet 6 4 29),
  (29, oLdI 3 30),
  (30, oALd 31),
  (31, oLdI 1 32),
  (32, oCmNe 49 35),
  (35, oLdA 0 36),
  (36, oGet 6 5 39),
  (39, oI (6) 41),
  (41, oLdI 3 42),
  (42, oBin (fun x y => x * y) 43),
  (43, oLdI 1 44),
  (44, oBin (fun x y => x + y) 45),
  (45, oALd 46),
  (46, oGoto 50),
  (49, oI (0) 50),
  (50, oBin (fun x y => x + y) 51),
  (51, oStI 2 52),
  (52, oInc 3 (1) 55),
  (55, oGoto 16),
  (58, oLdI 2 59),
  (59, oRetI)]
set_option maxRecDepth 100000 in
theorem ck_X6_valueOf {ini : Bool} : ∀ x ∈ cd_X6_valueOf, OpOK qMT cX6_valueOf RX6 4 (some .int) ini 0 0 none x.1 x.2 :=
  kc (ok_aload_n dX6_valueOf_0 rfl) (
  kc (ok_get (T := TX6) (k := 1) dX6_valueOf_1 rfl hin_X6 (by decide) hw_654) (
  kc (ok_iload_n dX6_valueOf_4 rfl) (
  kc (ok_iaload dX6_valueOf_5) (
  kc (ok_ineg dX6_valueOf_6) (
  kc (ok_aload_n dX6_valueOf_7 rfl) (
  kc (ok_iload_n dX6_valueOf_8 rfl) (
  kc (ok_callV (T := TX6) dX6_valueOf_9 qm_119 rfl rfl rfl hw_818 hw_820 hw_25 qp_119) (
  kc (ok_imul dX6_valueOf_12) (
  kc (ok_istore_n dX6_valueOf_13 rfl) (
  kc (ok_iconst dX6_valueOf_14 (by decide)) (
  kc (ok_istore_n dX6_valueOf_15 rfl) (
  kc (ok_iload_n dX6_valueOf_16 rfl) (
  kc (ok_aload_n dX6_valueOf_17 rfl) (
  kc (ok_get (T := TX6) (k := 3) dX6_valueOf_18 rfl hin_X6 (by decide) hw_656) (
  kc (ok_cm_ge dX6_valueOf_21 (by decide)) (
  kc (ok_iload_n dX6_valueOf_24 rfl) (
  kc (ok_aload_n dX6_valueOf_25 rfl) (
  kc (ok_get (T := TX6) (k := 4) dX6_valueOf_26 rfl hin_X6 (by decide) hw_657) (
  kc (ok_iload_n dX6_valueOf_29 rfl) (
  kc (ok_iaload dX6_valueOf_30) (
  kc (ok_iload_n dX6_valueOf_31 rfl) (
  kc (ok_cm_ne dX6_valueOf_32 (by decide)) (
  kc (ok_aload_n dX6_valueOf_35 rfl) (
  kc (ok_get (T := TX6) (k := 5) dX6_valueOf_36 rfl hin_X6 (by decide) hw_658) (
  kc (ok_bipush dX6_valueOf_39 (by decide)) (
  kc (ok_iload_n dX6_valueOf_41 rfl) (
  kc (ok_imul dX6_valueOf_42) (
  kc (ok_iload_n dX6_valueOf_43 rfl) (
  kc (ok_iadd dX6_valueOf_44) (
  kc (ok_iaload dX6_valueOf_45) (
  kc (ok_goto dX6_valueOf_46 (by decide)) (
  kc (ok_iconst dX6_valueOf_49 (by decide)) (
  kc (ok_iadd dX6_valueOf_50) (
  kc (ok_istore_n dX6_valueOf_51 rfl) (
  kc (ok_iinc dX6_valueOf_52 (by decide)) (
  kc (ok_goto dX6_valueOf_55 (by decide)) (
  kc (ok_iload_n dX6_valueOf_58 rfl) (
  kc (ok_retI dX6_valueOf_59 rfl) (
  kn)))))))))))))))))))))))))))))))))))))))
def cd_X6_value : List (Nat × qOp) := [
  (0, oLdI 1 1),
  (1, oCallS 104 1 0 0 0 0 4),
  (4, oIfEq 15 7),
  (7, oLdA 0 8),
  (8, oLdI 1 9),
  (9, oCallV 120 6 1 0 0 0 0 12),
  (12, oGoto 17),
  (15, oI (-100001) 17),
  (17, oRetI)]
set_option maxRecDepth 100000 in
theorem ck_X6_value {ini : Bool} : ∀ x ∈ cd_X6_value, OpOK qMT cX6_value RX6 2 (some .int) ini 0 0 none x.1 x.2 :=
  kc (ok_iload_n dX6_value_0 rfl) (
  kc (ok_callS dX6_value_1 qm_104 rfl rfl hw_745 hw_746 qp_104) (
  kc (ok_if_eq dX6_value_4 (by decide)) (
  kc (ok_aload_n dX6_value_7 rfl) (
  kc (ok_iload_n dX6_value_8 rfl) (
  kc (ok_callV (T := TX6) dX6_value_9 qm_120 rfl rfl rfl hw_814 hw_816 hw_24 qp_120) (
  kc (ok_goto dX6_value_12 (by decide)) (
  kc (ok_ldc dX6_value_15 hw_822) (
  kc (ok_retI dX6_value_17 rfl) (
  kn)))))))))
def cd_X6_size : List (Nat × qOp) := [
  (0, oI (0) 1),
  (1, oStI 1 2),
  (2, oLdI 0 3),
  (3, oStI 2 4),
  (4, oLdI 2 5),
  (5, oIfEq 20 8),
  (8, oInc 1 (1) 11),
  (11, oLdI 2 12),
  (12, oLdI 2 13),
  (13, oI (1) 14),
  (14, oBin (fun x y => x - y) 15),
  (15, oBin (fun x y => x &&& y) 16),
  (16, oStI 2 17),
  (17, oGoto 4),
  (20, oLdI 1 21),
  (21, oRetI)]
set_option maxRecDepth 100000 in
theorem ck_X6_size {ini : Bool} : ∀ x ∈ cd_X6_size, OpOK qMT cX6_size RX6 3 (some .int) ini 0 0 none x.1 x.2 :=
  kc (ok_iconst dX6_size_0 (by decide)) (
  kc (ok_istore_n dX6_size_1 rfl) (
  kc (ok_iload_n dX6_size_2 rfl) (
  kc (ok_istore_n dX6_size_3 rfl) (
  kc (ok_iload_n dX6_size_4 rfl) (
  kc (ok_if_eq dX6_size_5 (by decide)) (
  kc (ok_iinc dX6_size_8 (by decide)) (
  kc (ok_iload_n dX6_size_11 rfl) (
  kc (ok_iload_n dX6_size_12 rfl) (
  kc (ok_iconst dX6_size_13 (by decide)) (
  kc (ok_isub dX6_size_14) (
  kc (ok_iand dX6_size_15) (
  kc (ok_istore_n dX6_size_16 rfl) (
  kc (ok_goto dX6_size_17 (by decide)) (
  kc (ok_iload_n dX6_size_20 rfl) (
  kc (ok_retI dX6_size_21 rfl) (
  kn))))))))))))))))
def cd_X6_costAll : List (Nat × qOp) := [
  (0, oI (0) 1),
  (1, oStI 1 2),
  (2, oI (0) 3),
  (3, oStI 2 4),
  (4, oLdI 2 5),
  (5, oI (6) 7),
  (7, oCmGe 31 10),
  (10, oLdI 1 11),
  (11, oLdA 0 12),
  (12, oGet 6 1 15),
  (15, oLdI 2 16),
  (16, oALd 17),
  (17, oLdA 0 18),
  (18, oLdI 2 19),
  (19, oCallV 119 6 1 0 0 0 0 22),
  (22, oBin (fun x y => x * y) 23),
  (23, oBin (fun x y => x + y) 24),
  (24, oStI 1 25),
  (25, oInc 2 (1) 28),
  (28, oGoto 4),
  (31, oLdI 1 32),
  (32, oRetI)]
set_option maxRecDepth 100000 in
theorem ck_X6_costAll {ini : Bool} : ∀ x ∈ cd_X6_costAll, OpOK qMT cX6_costAll RX6 3 (some .int) ini 0 0 none x.1 x.2 :=
  kc (ok_iconst dX6_costAll_0 (by decide)) (
  kc (ok_istore_n dX6_costAll_1 rfl) (
  kc (ok_iconst dX6_costAll_2 (by decide)) (
  kc (ok_istore_n dX6_costAll_3 rfl) (
  kc (ok_iload_n dX6_costAll_4 rfl) (
  kc (ok_bipush dX6_costAll_5 (by decide)) (
  kc (ok_cm_ge dX6_costAll_7 (by decide)) (
  kc (ok_iload_n dX6_costAll_10 rfl) (
  kc (ok_aload_n dX6_costAll_11 rfl) (
  kc (ok_get (T := TX6) (k := 1) dX6_costAll_12 rfl hin_X6 (by decide) hw_654) (
  kc (ok_iload_n dX6_costAll_15 rfl) (
  kc (ok_iaload dX6_costAll_16) (
  kc (ok_aload_n dX6_costAll_17 rfl) (
  kc (ok_iload_n dX6_costAll_18 rfl) (
  kc (ok_callV (T := TX6) dX6_costAll_19 qm_119 rfl rfl rfl hw_818 hw_820 hw_25 qp_119) (
  kc (ok_imul dX6_costAll_22) (
  kc (ok_iadd dX6_costAll_23) (
  kc (ok_istore_n dX6_costAll_24 rfl) (
  kc (ok_iinc dX6_costAll_25 (by decide)) (
  kc (ok_goto dX6_costAll_28 (by decide)) (
  kc (ok_iload_n dX6_costAll_31 rfl) (
  kc (ok_retI dX6_costAll_32 rfl) (
  kn))))))))))))))))))))))
def cd_X6_count : List (Nat × qOp) := [
  (0, oLdI 1 1),
  (1, oIfNe 11 4),
  (4, oLdA 0 5),
  (5, oGet 6 3 8),
  (8, oGoto 63),
  (11, oLdI 1 12),
  (12, oI (1) 13),
  (13, oCmNe 23 16),
  (16, oLdA 0 17),
  (17, oGet 6 6 20),
  (20, oGoto 63),
  (23, oLdI 1 24),
  (24, oI (2) 25),
  (25, oCmNe 38 28),
  (28, oLdA 0 29),
  (29, oGet 6 9 32),
  (32, oCallS 122 1 0 0 0 0 35),
  (35, oGoto 63),
  (38, oLdI 1 39),
  (39, oI (3) 40),
  (40, oCmNe 50 43),
  (43, oLdA 0 44),
  (44, oCallV 123 6 0 0 0 0 0 47),
  (47, oGoto 63),
  (50, oLdI 1 51),
  (51, oI (4) 52),
  (52, oCmNe 62 55),
  (55, oLdA 0 56),
  (56, oGet 6 10 59),
  (59, oGoto 63),
  (62, oI (-1) 63),
  (63, oRetI)]
set_option maxRecDepth 100000 in
theorem ck_X6_count {ini : Bool} : ∀ x ∈ cd_X6_count, OpOK qMT cX6_count RX6 2 (some .int) ini 0 0 none x.1 x.2 :=
  kc (ok_iload_n dX6_count_0 rfl) (
  kc (ok_if_ne dX6_count_1 (by decide)) (
  kc (ok_aload_n dX6_count_4 rfl) (
  kc (ok_get (T := TX6) (k := 3) dX6_count_5 rfl hin_X6 (by decide) hw_656) (
  kc (ok_goto dX6_count_8 (by decide)) (
  kc (ok_iload_n dX6_count_11 rfl) (
  kc (ok_iconst dX6_count_12 (by decide)) (
  kc (ok_cm_ne dX6_count_13 (by decide)) (
  kc (ok_aload_n dX6_count_16 rfl) (
  kc (ok_get (T := TX6) (k := 6) dX6_count_17 rfl hin_X6 (by decide) hw_659) (
  kc (ok_goto dX6_count_20 (by decide)) (
  kc (ok_iload_n dX6_count_23 rfl) (
  kc (ok_iconst dX6_count_24 (by decide)) (
  kc (ok_cm_ne dX6_count_25 (by decide)) (
  kc (ok_aload_n dX6_count_28 rfl) (
  kc (ok_get (T := TX6) (k := 9) dX6_count_29 rfl hin_X6 (by decide) hw_662) (
  kc (ok_callS dX6_count_32 qm_122 rfl rfl hw_827 hw_828 qp_122) (
  kc (ok_goto dX6_count_35 (by decide)) (
  kc (ok_iload_n dX6_count_38 rfl) (
  kc (ok_iconst dX6_count_39 (by decide)) (
  kc (ok_cm_ne dX6_count_40 (by decide)) (
  kc (ok_aload_n dX6_count_43 rfl) (
  kc (ok_callV (T := TX6) dX6_count_44 qm_123 rfl rfl rfl hw_830 hw_832 hw_26 qp_123) (
  kc (ok_goto dX6_count_47 (by decide)) (
  kc (ok_iload_n dX6_count_50 rfl) (
  kc (ok_iconst dX6_count_51 (by decide)) (
  kc (ok_cm_ne dX6_count_52 (by decide)) (
  kc (ok_aload_n dX6_count_55 rfl) (
  kc (ok_get (T := TX6) (k := 10) dX6_count_56 rfl hin_X6 (by decide) hw_663) (
  kc (ok_goto dX6_count_59 (by decide)) (
  kc (ok_iconst dX6_count_62 (by decide)) (
  kc (ok_retI dX6_count_63 rfl) (
  kn))))))))))))))))))))))))))))))))
def cd_X6_type : List (Nat × qOp) := [
  (0, oLdI 3 1),
  (1, oI2L 2),
  (2, oL (1) 3),
  (3, oL (8) 6),
  (6, oCallS 102 3 0 0 0 0 9),
  (9, oIfNe 14 12),
  (12, oI (-1) 13),
  (13, oRetI),
  (14, oI (0) 15),
  (15, oStI 4 17),
  (17, oLdI 4 19),
  (19, oLdI 3 20),
  (20, oCmGe 54 23),
  (23, oLdL 1 24),
  (24, oI (8) 26),
  (26, oLdI 4 28),
  (28, oBin (fun x y => x * y) 29),
  (29, oLSh (fun x y => x >>> (y.toInt64 &&& 63)) 30),
  (30, oL (255) 33),
  (33, oLBin (fun x y => x &&& y) 34),
  (34, oL (32) 37),
  (37, oL (126) 40),
  (40, oCallS 102 3 0 0 0 0 43),
  (43, oIfNe 48 46),
  (46, oI (-1) 47),
  (47, oRetI),
  (48, oInc 4 (1) 51),
  (51, oGoto 17),
  (54, oLdA 0 55),
  (55, oGet 6 12 58),
  (58, oLdI 3 59),
  (59, oBin (fun x y => x + y) 60),
  (60, oI (80) 62),
  (62, oCmLe 68 65),
  (65, oI (-3) 67),
  (67, oRetI),
  (68, oLdI 3 69),
  (69, oI (1) 70),
  (70, oBin (fun x y => x - y) 71),
  (71, oStI 4 73),
  (73, oLdI 4 75),
  (75, oIfLt 115 78),
  (78, oLdA 0 79),
  (79, oGet 6 11 82),
  (82, oLdA 0 83),
  (83, oGet 6 12 86),
  (86, oLdL 1 87),
  (87, oI (8) 89),
  (89, oLdI 4 91),
  (91, oBin (fun x y => x * y) 92),
  (92, oLSh (fun x y => x >>> (y.toInt64 &&& 63)) 93),
  (93, oL (255) 96),
  (96, oLBin (fun x y => x &&& y) 97),
  (97, oL2I 98),
  (98, oASt 99),
  (99, oLdA 0 100),
  (100, oDup 101),
  (101, oGet 6 12 104),
  (104, oI (1) 105),
  (105, oBin (fun x y => x + y) 106),
  (106, oPutI 6 12 109),
  (109, oInc 4 (-1) 112),
  (112, oGoto 73),
  (115, oLdA 0 116),
  (116, oGet 6 12 119),
  (119, oRetI)]
set_option maxRecDepth 100000 in
theorem ck_X6_type {ini : Bool} : ∀ x ∈ cd_X6_type, OpOK qMT cX6_type RX6 5 (some .int) ini 0 0 none x.1 x.2 :=
  kc (ok_iload_n dX6_type_0 rfl) (
  kc (ok_i2l dX6_type_1) (
  kc (ok_lconst dX6_type_2 (by decide)) (
  kc (ok_ldc2 dX6_type_3 hw_838) (
  kc (ok_callS dX6_type_6 qm_102 rfl rfl hw_749 hw_750 qp_102) (
  kc (ok_if_ne dX6_type_9 (by decide)) (
  kc (ok_iconst dX6_type_12 (by decide)) (
  kc (ok_retI dX6_type_13 rfl) (
  kc (ok_iconst dX6_type_14 (by decide)) (
  kc (ok_istore dX6_type_15) (
  kc (ok_iload dX6_type_17) (
  kc (ok_iload_n dX6_type_19 rfl) (
  kc (ok_cm_ge dX6_type_20 (by decide)) (
  kc (ok_lload_n dX6_type_23 rfl) (
  kc (ok_bipush dX6_type_24 (by decide)) (
  kc (ok_iload dX6_type_26) (
  kc (ok_imul dX6_type_28) (
  kc (ok_lshr dX6_type_29) (
  kc (ok_ldc2 dX6_type_30 hw_839) (
  kc (ok_land dX6_type_33) (
  kc (ok_ldc2 dX6_type_34 hw_840) (
  kc (ok_ldc2 dX6_type_37 hw_841) (
  kc (ok_callS dX6_type_40 qm_102 rfl rfl hw_749 hw_750 qp_102) (
  kc (ok_if_ne dX6_type_43 (by decide)) (
  kc (ok_iconst dX6_type_46 (by decide)) (
  kc (ok_retI dX6_type_47 rfl) (
  kc (ok_iinc dX6_type_48 (by decide)) (
  kc (ok_goto dX6_type_51 (by decide)) (
  kc (ok_aload_n dX6_type_54 rfl) (
  kc (ok_get (T := TX6) (k := 12) dX6_type_55 rfl hin_X6 (by decide) hw_665) (
  kc (ok_iload_n dX6_type_58 rfl) (
  kc (ok_iadd dX6_type_59) (
  kc (ok_bipush dX6_type_60 (by decide)) (
  kc (ok_cm_le dX6_type_62 (by decide)) (
  kc (ok_bipush dX6_type_65 (by decide)) (
  kc (ok_retI dX6_type_67 rfl) (
  kc (ok_iload_n dX6_type_68 rfl) (
  kc (ok_iconst dX6_type_69 (by decide)) (
  kc (ok_isub dX6_type_70) (
  kc (ok_istore dX6_type_71) (
  kc (ok_iload dX6_type_73) (
  kc (ok_if_lt dX6_type_75 (by decide)) (
  kc (ok_aload_n dX6_type_78 rfl) (
  kc (ok_get (T := TX6) (k := 11) dX6_type_79 rfl hin_X6 (by decide) hw_664) (
  kc (ok_aload_n dX6_type_82 rfl) (
  kc (ok_get (T := TX6) (k := 12) dX6_type_83 rfl hin_X6 (by decide) hw_665) (
  kc (ok_lload_n dX6_type_86 rfl) (
  kc (ok_bipush dX6_type_87 (by decide)) (
  kc (ok_iload dX6_type_89) (
  kc (ok_imul dX6_type_91) (
  kc (ok_lshr dX6_type_92) (
  kc (ok_ldc2 dX6_type_93 hw_839) (
  kc (ok_land dX6_type_96) (
  kc (ok_l2i dX6_type_97) (
  kc (ok_iastore dX6_type_98) (
  kc (ok_aload_n dX6_type_99 rfl) (
  kc (ok_dup dX6_type_100) (
  kc (ok_get (T := TX6) (k := 12) dX6_type_101 rfl hin_X6 (by decide) hw_665) (
  kc (ok_iconst dX6_type_104 (by decide)) (
  kc (ok_iadd dX6_type_105) (
  kc (ok_putI (T := TX6) (k := 12) dX6_type_106 rfl hin_X6 tyX6_ok nmX6 (by decide) hw_665 rfl (tyX6_ok 12 (by decide))) (
  kc (ok_iinc dX6_type_109 (by decide)) (
  kc (ok_goto dX6_type_112 (by decide)) (
  kc (ok_aload_n dX6_type_115 rfl) (
  kc (ok_get (T := TX6) (k := 12) dX6_type_116 rfl hin_X6 (by decide) hw_665) (
  kc (ok_retI dX6_type_119 rfl) (
  kn))))))))))))))))))))))))))))))))))))))))))))))))))))))))))))))))))
def cd_X6_here : List (Nat × qOp) := [
  (0, oLdA 0 1),
  (1, oGet 6 13 4),
  (4, oLdA 0 5),
  (5, oGet 6 12 8),
  (8, oCmGe 38 11),
  (11, oLdA 0 12),
  (12, oGet 6 11 15),
  (15, oLdA 0 16),
  (16, oGet 6 13 19),
  (19, oALd 20),
  (20, oI (32) 22),
  (22, oCmNe 38 25),
  (25, oLdA 0 26),
  (26, oDup 27),
  (27, oGet 6 13 30),
  (30, oI (1) 31),
  (31, oBin (fun x y => x + y) 32),
  (32, oPutI 6 13 35),
  (35, oGoto 0),
  (38, oLdA 0 39),
  (39, oGet 6 13 42),
  (42, oLdA 0 43),
  (43, oGet 6 12 46),
  (46, oCmGe 61 49),
  (49, oLdA 0 50),
  (50, oGet 6 11 53),
  (53, oLdA 0 54),
  (54, oGet 6 13 57),
  (57, oALd 58),
  (58, oGoto 62),
  (61, oI (0) 62),
  (62, oRetI)]
set_option maxRecDepth 100000 in
theorem ck_X6_here {ini : Bool} : ∀ x ∈ cd_X6_here, OpOK qMT cX6_here RX6 1 (some .int) ini 0 0 none x.1 x.2 :=
  kc (ok_aload_n dX6_here_0 rfl) (
  kc (ok_get (T := TX6) (k := 13) dX6_here_1 rfl hin_X6 (by decide) hw_666) (
  kc (ok_aload_n dX6_here_4 rfl) (
  kc (ok_get (T := TX6) (k := 12) dX6_here_5 rfl hin_X6 (by decide) hw_665) (
  kc (ok_cm_ge dX6_here_8 (by decide)) (
  kc (ok_aload_n dX6_here_11 rfl) (
  kc (ok_get (T := TX6) (k := 11) dX6_here_12 rfl hin_X6 (by decide) hw_664) (
  kc (ok_aload_n dX6_here_15 rfl) (
  kc (ok_get (T := TX6) (k := 13) dX6_here_16 rfl hin_X6 (by decide) hw_666) (
  kc (ok_iaload dX6_here_19) (
  kc (ok_bipush dX6_here_20 (by decide)) (
  kc (ok_cm_ne dX6_here_22 (by decide)) (
  kc (ok_aload_n dX6_here_25 rfl) (
  kc (ok_dup dX6_here_26) (
  kc (ok_get (T := TX6) (k := 13) dX6_here_27 rfl hin_X6 (by decide) hw_666) (
  kc (ok_iconst dX6_here_30 (by decide)) (
  kc (ok_iadd dX6_here_31) (
  kc (ok_putI (T := TX6) (k := 13) dX6_here_32 rfl hin_X6 tyX6_ok nmX6 (by decide) hw_666 rfl (tyX6_ok 13 (by decide))) (
  kc (ok_goto dX6_here_35 (by decide)) (
  kc (ok_aload_n dX6_here_38 rfl) (
  kc (ok_get (T := TX6) (k := 13) dX6_here_39 rfl hin_X6 (by decide) hw_666) (
  kc (ok_aload_n dX6_here_42 rfl) (
  kc (ok_get (T := TX6) (k := 12) dX6_here_43 rfl hin_X6 (by decide) hw_665) (
  kc (ok_cm_ge dX6_here_46 (by decide)) (
  kc (ok_aload_n dX6_here_49 rfl) (
  kc (ok_get (T := TX6) (k := 11) dX6_here_50 rfl hin_X6 (by decide) hw_664) (
  kc (ok_aload_n dX6_here_53 rfl) (
  kc (ok_get (T := TX6) (k := 13) dX6_here_54 rfl hin_X6 (by decide) hw_666) (
  kc (ok_iaload dX6_here_57) (
  kc (ok_goto dX6_here_58 (by decide)) (
  kc (ok_iconst dX6_here_61 (by decide)) (
  kc (ok_retI dX6_here_62 rfl) (
  kn))))))))))))))))))))))))))))))))
def cd_X6_has : List (Nat × qOp) := [
  (0, oLdA 0 1),
  (1, oGet 6 14 4),
  (4, oIfNe 19 7),
  (7, oLdA 0 8),
  (8, oCallV 126 6 0 0 0 0 0 11),
  (11, oLdI 1 12),
  (12, oCmNe 19 15),
  (15, oI (1) 16),
  (16, oGoto 20),
  (19, oI (0) 20),
  (20, oStI 2 21),
  (21, oLdA 0 22),
  (22, oDup 23),
  (23, oGet 6 13 26),
  (26, oLdI 2 27),
  (27, oIfEq 34 30),
  (30, oI (1) 31),
  (31, oGoto 35),
  (34, oI (0) 35),
  (35, oBin (fun x y => x + y) 36),
  (36, oPutI 6 13 39),
  (39, oLdI 2 40),
  (40, oRetZ)]
set_option maxRecDepth 100000 in
theorem ck_X6_has {ini : Bool} : ∀ x ∈ cd_X6_has, OpOK qMT cX6_has RX6 3 (some .boolean) ini 0 0 none x.1 x.2 :=
  kc (ok_aload_n dX6_has_0 rfl) (
  kc (ok_get (T := TX6) (k := 14) dX6_has_1 rfl hin_X6 (by decide) hw_667) (
  kc (ok_if_ne dX6_has_4 (by decide)) (
  kc (ok_aload_n dX6_has_7 rfl) (
  kc (ok_callV (T := TX6) dX6_has_8 qm_126 rfl rfl rfl hw_858 hw_860 hw_30 qp_126) (
  kc (ok_iload_n dX6_has_11 rfl) (
  kc (ok_cm_ne dX6_has_12 (by decide)) (
  kc (ok_iconst dX6_has_15 (by decide)) (
  kc (ok_goto dX6_has_16 (by decide)) (
  kc (ok_iconst dX6_has_19 (by decide)) (
  kc (ok_istore_n dX6_has_20 rfl) (
  kc (ok_aload_n dX6_has_21 rfl) (
  kc (ok_dup dX6_has_22) (
  kc (ok_get (T := TX6) (k := 13) dX6_has_23 rfl hin_X6 (by decide) hw_666) (
  kc (ok_iload_n dX6_has_26 rfl) (
  kc (ok_if_eq dX6_has_27 (by decide)) (
  kc (ok_iconst dX6_has_30 (by decide)) (
  kc (ok_goto dX6_has_31 (by decide)) (
  kc (ok_iconst dX6_has_34 (by decide)) (
  kc (ok_iadd dX6_has_35) (
  kc (ok_putI (T := TX6) (k := 13) dX6_has_36 rfl hin_X6 tyX6_ok nmX6 (by decide) hw_666 rfl (tyX6_ok 13 (by decide))) (
  kc (ok_iload_n dX6_has_39 rfl) (
  kc (ok_retZ dX6_has_40 rfl) (
  kn)))))))))))))))))))))))
def cd_X6_digit : List (Nat × qOp) := [
  (0, oLdA 0 1),
  (1, oLdA 0 2),
  (2, oGet 6 14 5),
  (5, oIfNe 27 8),
  (8, oLdA 0 9),
  (9, oCallV 126 6 0 0 0 0 0 12),
  (12, oI2L 13),
  (13, oL (48) 16),
  (16, oI (48) 18),
  (18, oLdI 1 19),
  (19, oBin (fun x y => x + y) 20),
  (20, oI2L 21),
  (21, oCallS 102 3 0 0 0 0 24),
  (24, oIfNe 31 27),
  (27, oI (1) 28),
  (28, oGoto 32),
  (31, oI (0) 32),
  (32, oPutZ 6 14 35),
  (35, oLdA 0 36),
  (36, oGet 6 14 39),
  (39, oIfEq 46 42),
  (42, oI (0) 43),
  (43, oGoto 53),
  (46, oLdA 0 47),
  (47, oCallV 126 6 0 0 0 0 0 50),
  (50, oI (48) 52),
  (52, oBin (fun x y => x - y) 53),
  (53, oStI 2 54),
  (54, oLdA 0 55),
  (55, oDup 56),
  (56, oGet 6 13 59),
  (59, oLdA 0 60),
  (60, oGet 6 14 63),
  (63, oIfEq 70 66),
  (66, oI (0) 67),
  (67, oGoto 71),
  (70, oI (1) 71),
  (71, oBin (fun x y => x + y) 72),
  (72, oPutI 6 13 75),
  (75, oLdI 2 76),
  (76, oRetI)]
set_option maxRecDepth 100000 in
theorem ck_X6_digit {ini : Bool} : ∀ x ∈ cd_X6_digit, OpOK qMT cX6_digit RX6 3 (some .int) ini 0 0 none x.1 x.2 :=
  kc (ok_aload_n dX6_digit_0 rfl) (
  kc (ok_aload_n dX6_digit_1 rfl) (
  kc (ok_get (T := TX6) (k := 14) dX6_digit_2 rfl hin_X6 (by decide) hw_667) (
  kc (ok_if_ne dX6_digit_5 (by decide)) (
  kc (ok_aload_n dX6_digit_8 rfl) (
  kc (ok_callV (T := TX6) dX6_digit_9 qm_126 rfl rfl rfl hw_858 hw_860 hw_30 qp_126) (
  kc (ok_i2l dX6_digit_12) (
  kc (ok_ldc2 dX6_digit_13 hw_866) (
  kc (ok_bipush dX6_digit_16 (by decide)) (
  kc (ok_iload_n dX6_digit_18 rfl) (
  kc (ok_iadd dX6_digit_19) (
  kc (ok_i2l dX6_digit_20) (
  kc (ok_callS dX6_digit_21 qm_102 rfl rfl hw_749 hw_750 qp_102) (
  kc (ok_if_ne dX6_digit_24 (by decide)) (
  kc (ok_iconst dX6_digit_27 (by decide)) (
  kc (ok_goto dX6_digit_28 (by decide)) (
  kc (ok_iconst dX6_digit_31 (by decide)) (
  kc (ok_putZ (T := TX6) (k := 14) dX6_digit_32 rfl hin_X6 tyX6_ok nmX6 (by decide) hw_667 rfl (tyX6_ok 14 (by decide))) (
  kc (ok_aload_n dX6_digit_35 rfl) (
  kc (ok_get (T := TX6) (k := 14) dX6_digit_36 rfl hin_X6 (by decide) hw_667) (
  kc (ok_if_eq dX6_digit_39 (by decide)) (
  kc (ok_iconst dX6_digit_42 (by decide)) (
  kc (ok_goto dX6_digit_43 (by decide)) (
  kc (ok_aload_n dX6_digit_46 rfl) (
  kc (ok_callV (T := TX6) dX6_digit_47 qm_126 rfl rfl rfl hw_858 hw_860 hw_30 qp_126) (
  kc (ok_bipush dX6_digit_50 (by decide)) (
  kc (ok_isub dX6_digit_52) (
  kc (ok_istore_n dX6_digit_53 rfl) (
  kc (ok_aload_n dX6_digit_54 rfl) (
  kc (ok_dup dX6_digit_55) (
  kc (ok_get (T := TX6) (k := 13) dX6_digit_56 rfl hin_X6 (by decide) hw_666) (
  kc (ok_aload_n dX6_digit_59 rfl) (
  kc (ok_get (T := TX6) (k := 14) dX6_digit_60 rfl hin_X6 (by decide) hw_667) (
  kc (ok_if_eq dX6_digit_63 (by decide)) (
  kc (ok_iconst dX6_digit_66 (by decide)) (
  kc (ok_goto dX6_digit_67 (by decide)) (
  kc (ok_iconst dX6_digit_70 (by decide)) (
  kc (ok_iadd dX6_digit_71) (
  kc (ok_putI (T := TX6) (k := 13) dX6_digit_72 rfl hin_X6 tyX6_ok nmX6 (by decide) hw_666 rfl (tyX6_ok 13 (by decide))) (
  kc (ok_iload_n dX6_digit_75 rfl) (
  kc (ok_retI dX6_digit_76 rfl) (
  kn)))))))))))))))))))))))))))))))))))))))))
def cd_X6_thingClause : List (Nat × qOp) := [
  (0, oLdA 0 1),
  (1, oGet 6 15 4),
  (4, oLdI 1 5),
  (5, oLdA 0 6),
  (6, oI (45) 8),
  (8, oCallV 127 6 1 0 0 0 0 11),
  (11, oIfEq 19 14),
  (14, oI (6) 16),
  (16, oGoto 24),
  (19, oLdA 0 20),
  (20, oI (5) 21),
  (21, oCallV 128 6 1 0 0 0 0 24),
  (24, oASt 25),
  (25, oI (1) 26),
  (26, oStI 2 27),
  (27, oLdI 2 28),
  (28, oI (7) 30),
  (30, oCmGe 53 33),
  (33, oLdA 0 34),
  (34, oGet 6 15 37),
  (37, oLdI 1 38),
  (38, oLdI 2 39),
  (39, oBin (fun x y => x + y) 40),
  (40, oLdA 0 41),
  (41, oI (9) 43),
  (43, oCallV 128 6 1 0 0 0 0 46),
  (46, oASt 47),
  (47, oInc 2 (1) 50),
  (50, oGoto 27),
  (53, oRetV)]
set_option maxRecDepth 100000 in
theorem ck_X6_thingClause {ini : Bool} : ∀ x ∈ cd_X6_thingClause, OpOK qMT cX6_thingClause RX6 3 none ini 0 0 none x.1 x.2 :=
  kc (ok_aload_n dX6_thingClause_0 rfl) (
  kc (ok_get (T := TX6) (k := 15) dX6_thingClause_1 rfl hin_X6 (by decide) hw_668) (
  kc (ok_iload_n dX6_thingClause_4 rfl) (
  kc (ok_aload_n dX6_thingClause_5 rfl) (
  kc (ok_bipush dX6_thingClause_6 (by decide)) (
  kc (ok_callV (T := TX6) dX6_thingClause_8 qm_127 rfl rfl rfl hw_854 hw_856 hw_29 qp_127) (
  kc (ok_if_eq dX6_thingClause_11 (by decide)) (
  kc (ok_bipush dX6_thingClause_14 (by decide)) (
  kc (ok_goto dX6_thingClause_16 (by decide)) (
  kc (ok_aload_n dX6_thingClause_19 rfl) (
  kc (ok_iconst dX6_thingClause_20 (by decide)) (
  kc (ok_callV (T := TX6) dX6_thingClause_21 qm_128 rfl rfl rfl hw_862 hw_864 hw_31 qp_128) (
  kc (ok_iastore dX6_thingClause_24) (
  kc (ok_iconst dX6_thingClause_25 (by decide)) (
  kc (ok_istore_n dX6_thingClause_26 rfl) (
  kc (ok_iload_n dX6_thingClause_27 rfl) (
  kc (ok_bipush dX6_thingClause_28 (by decide)) (
  kc (ok_cm_ge dX6_thingClause_30 (by decide)) (
  kc (ok_aload_n dX6_thingClause_33 rfl) (
  kc (ok_get (T := TX6) (k := 15) dX6_thingClause_34 rfl hin_X6 (by decide) hw_668) (
  kc (ok_iload_n dX6_thingClause_37 rfl) (
  kc (ok_iload_n dX6_thingClause_38 rfl) (
  kc (ok_iadd dX6_thingClause_39) (
  kc (ok_aload_n dX6_thingClause_40 rfl) (
  kc (ok_bipush dX6_thingClause_41 (by decide)) (
  kc (ok_callV (T := TX6) dX6_thingClause_43 qm_128 rfl rfl rfl hw_862 hw_864 hw_31 qp_128) (
  kc (ok_iastore dX6_thingClause_46) (
  kc (ok_iinc dX6_thingClause_47 (by decide)) (
  kc (ok_goto dX6_thingClause_50 (by decide)) (
  kc (ok_retV dX6_thingClause_53 rfl) (
  kn))))))))))))))))))))))))))))))
def cd_X6_side : List (Nat × qOp) := [
  (0, oLdA 0 1),
  (1, oGet 6 14 4),
  (4, oIfEq 11 7),
  (7, oI (0) 8),
  (8, oGoto 15),
  (11, oLdA 0 12),
  (12, oCallV 126 6 0 0 0 0 0 15),
  (15, oStI 2 16),
  (16, oLdI 2 17),
  (17, oI2L 18),
  (18, oL (97) 21),
  (21, oL (104) 24),
  (24, oCallS 102 3 0 0 0 0 27),
  (27, oIfEq 48 30),
  (30, oLdA 0 31),
  (31, oLdI 2 32),
  (32, oI (97) 34),
  (34, oBin (fun x y => x - y) 35),
  (35, oCallV 105 6 1 0 0 0 0 38),
  (38, oIfEq 48 41),
  (41, oLdI 2 42),
  (42, oI (97) 44),
  (44, oBin (fun x y => x - y) 45),
  (45, oGoto 71),
  (48, oLdI 2 49),
  (49, oI2L 50),
  (50, oL (48) 53),
  (53, oL (53) 56),
  (56, oCallS 102 3 0 0 0 0 59),
  (59, oIfEq 69 62),
  (62, oLdI 2 63),
  (63, oI (38) 65),
  (65, oBin (fun x y => x - y) 66),
  (66, oGoto 71),
  (69, oI (-4) 71),
  (71, oStI 3 72),
  (72, oLdA 0 73),
  (73, oLdA 0 74),
  (74, oGet 6 14 77),
  (77, oIfNe 89 80),
  (80, oLdI 3 81),
  (81, oIfLt 89 84),
  (84, oLdI 3 85),
  (85, oLdI 1 86),
  (86, oCmNe 93 89),
  (89, oI (1) 90),
  (90, oGoto 94),
  (93, oI (0) 94),
  (94, oPutZ 6 14 97),
  (97, oLdA 0 98),
  (98, oDup 99),
  (99, oGet 6 13 102),
  (102, oLdA 0 103),
  (103, oGet 6 14 106),
  (106, oIfEq 113 109),
  (109, oI (0) 110),
  (110, oGoto 114),
  (113, oI (1) 114),
  (114, oBin (fun x y => x + y) 115),
  (115, oPutI 6 13 118),
  (118, oLdI 3 119),
  (119, oRetI)]
set_option maxRecDepth 100000 in
theorem ck_X6_side {ini : Bool} : ∀ x ∈ cd_X6_side, OpOK qMT cX6_side RX6 4 (some .int) ini 0 0 none x.1 x.2 :=
  kc (ok_aload_n dX6_side_0 rfl) (
  kc (ok_get (T := TX6) (k := 14) dX6_side_1 rfl hin_X6 (by decide) hw_667) (
  kc (ok_if_eq dX6_side_4 (by decide)) (
  kc (ok_iconst dX6_side_7 (by decide)) (
  kc (ok_goto dX6_side_8 (by decide)) (
  kc (ok_aload_n dX6_side_11 rfl) (
  kc (ok_callV (T := TX6) dX6_side_12 qm_126 rfl rfl rfl hw_858 hw_860 hw_30 qp_126) (
  kc (ok_istore_n dX6_side_15 rfl) (
  kc (ok_iload_n dX6_side_16 rfl) (
  kc (ok_i2l dX6_side_17) (
  kc (ok_ldc2 dX6_side_18 hw_871) (
  kc (ok_ldc2 dX6_side_21 hw_872) (
  kc (ok_callS dX6_side_24 qm_102 rfl rfl hw_749 hw_750 qp_102) (
  kc (ok_if_eq dX6_side_27 (by decide)) (
  kc (ok_aload_n dX6_side_30 rfl) (
  kc (ok_iload_n dX6_side_31 rfl) (
  kc (ok_bipush dX6_side_32 (by decide)) (
  kc (ok_isub dX6_side_34) (
  kc (ok_callV (T := TX6) dX6_side_35 qm_105 rfl rfl rfl hw_779 hw_781 hw_21 qp_105) (
  kc (ok_if_eq dX6_side_38 (by decide)) (
  kc (ok_iload_n dX6_side_41 rfl) (
  kc (ok_bipush dX6_side_42 (by decide)) (
  kc (ok_isub dX6_side_44) (
  kc (ok_goto dX6_side_45 (by decide)) (
  kc (ok_iload_n dX6_side_48 rfl) (
  kc (ok_i2l dX6_side_49) (
  kc (ok_ldc2 dX6_side_50 hw_866) (
  kc (ok_ldc2 dX6_side_53 hw_873) (
  kc (ok_callS dX6_side_56 qm_102 rfl rfl hw_749 hw_750 qp_102) (
  kc (ok_if_eq dX6_side_59 (by decide)) (
  kc (ok_iload_n dX6_side_62 rfl) (
  kc (ok_bipush dX6_side_63 (by decide)) (
  kc (ok_isub dX6_side_65) (
  kc (ok_goto dX6_side_66 (by decide)) (
  kc (ok_bipush dX6_side_69 (by decide)) (
  kc (ok_istore_n dX6_side_71 rfl) (
  kc (ok_aload_n dX6_side_72 rfl) (
  kc (ok_aload_n dX6_side_73 rfl) (
  kc (ok_get (T := TX6) (k := 14) dX6_side_74 rfl hin_X6 (by decide) hw_667) (
  kc (ok_if_ne dX6_side_77 (by decide)) (
  kc (ok_iload_n dX6_side_80 rfl) (
  kc (ok_if_lt dX6_side_81 (by decide)) (
  kc (ok_iload_n dX6_side_84 rfl) (
  kc (ok_iload_n dX6_side_85 rfl) (
  kc (ok_cm_ne dX6_side_86 (by decide)) (
  kc (ok_iconst dX6_side_89 (by decide)) (
  kc (ok_goto dX6_side_90 (by decide)) (
  kc (ok_iconst dX6_side_93 (by decide)) (
  kc (ok_putZ (T := TX6) (k := 14) dX6_side_94 rfl hin_X6 tyX6_ok nmX6 (by decide) hw_667 rfl (tyX6_ok 14 (by decide))) (
  kc (ok_aload_n dX6_side_97 rfl) (
  kc (ok_dup dX6_side_98) (
  kc (ok_get (T := TX6) (k := 13) dX6_side_99 rfl hin_X6 (by decide) hw_666) (
  kc (ok_aload_n dX6_side_102 rfl) (
  kc (ok_get (T := TX6) (k := 14) dX6_side_103 rfl hin_X6 (by decide) hw_667) (
  kc (ok_if_eq dX6_side_106 (by decide)) (
  kc (ok_iconst dX6_side_109 (by decide)) (
  kc (ok_goto dX6_side_110 (by decide)) (
  kc (ok_iconst dX6_side_113 (by decide)) (
  kc (ok_iadd dX6_side_114) (
  kc (ok_putI (T := TX6) (k := 13) dX6_side_115 rfl hin_X6 tyX6_ok nmX6 (by decide) hw_666 rfl (tyX6_ok 13 (by decide))) (
  kc (ok_iload_n dX6_side_118 rfl) (
  kc (ok_retI dX6_side_119 rfl) (
  kn))))))))))))))))))))))))))))))))))))))))))))))))))))))))))))))
def cd_X6_readAll : List (Nat × qOp) := [
  (0, oLdA 0 1),
  (1, oI (0) 2),
  (2, oPutI 6 13 5),
  (5, oLdA 0 6),
  (6, oI (0) 7),
  (7, oPutZ 6 14 10),
  (10, oI (0) 11),
  (11, oStI 2 12),
  (12, oI (1) 13),
  (13, oStI 3 14),
  (14, oLdI 3 15),
  (15, oIfEq 114 18),
  (18, oLdI 1 19),
  (19, oIfEq 33 22),
  (22, oLdA 0 23),
  (23, oI (7) 25),
  (25, oLdI 2 26),
  (26, oBin (fun x y => x * y) 27),
  (27, oCallV 129 6 1 0 0 0 0 30),
  (30, oGoto 69),
  (33, oLdA 0 34),
  (34, oGet 6 15 37),
  (37, oI (2) 38),
  (38, oLdI 2 39),
  (39, oBin (fun x y => x * y) 40),
  (40, oLdA 0 41),
  (41, oI (-4) 43),
  (43, oCallV 130 6 1 0 0 0 0 46),
  (46, oASt 47),
  (47, oLdA 0 48),
  (48, oGet 6 15 51),
  (51, oI (2) 52),
  (52, oLdI 2 53),
  (53, oBin (fun x y => x * y) 54),
  (54, oI (1) 55),
  (55, oBin (fun x y => x + y) 56),
  (56, oLdA 0 57),
  (57, oLdA 0 58),
  (58, oGet 6 15 61),
  (61, oI (2) 62),
  (62, oLdI 2 63),
  (63, oBin (fun x y => x * y) 64),
  (64, oALd 65),
  (65, oCallV 130 6 1 0 0 0 0 68),
  (68, oASt 69),
  (69, oInc 2 (1) 72),
  (72, oLdI 2 73),
  (73, oLdI 1 74),
  (74, oIfEq 82 77),
  (77, oI (8) 79),
  (79, oGoto 84),
  (82, oI (12) 84),
  (84, oCmGe 109 87),
  (87, oLdA 0 88),
  (88, oLdI 1 89),
  (89, oIfEq 97 92),
  (92, oI (59) 94),
  (94, oGoto 99),
  (97, oI (44) 99),
  (99, oCallV 127 6 1 0 0 0 0 102),
  (102, oIfEq 109 105),
  (105, oI (1) 106),
  (106, oGoto 110),
  (109, oI (0) 110),
  (110, oStI 3 111),
  (111, oGoto 14),
  (114, oLdA 0 115),
  (115, oLdA 0 116),
  (116, oGet 6 14 119),
  (119, oIfNe 129 122),
  (122, oLdA 0 123),
  (123, oCallV 126 6 0 0 0 0 0 126),
  (126, oIfEq 133 129),
  (129, oI (1) 130),
  (130, oGoto 134),
  (133, oI (0) 134),
  (134, oPutZ 6 14 137),
  (137, oLdA 0 138),
  (138, oI (0) 139),
  (139, oPutI 6 12 142),
  (142, oLdA 0 143),
  (143, oGet 6 14 146),
  (146, oIfEq 159 149),
  (149, oI (-20) 151),
  (151, oLdA 0 152),
  (152, oGet 6 13 155),
  (155, oBin (fun x y => x - y) 156),
  (156, oGoto 160),
  (159, oLdI 2 160),
  (160, oRetI)]
set_option maxRecDepth 100000 in
theorem ck_X6_readAll {ini : Bool} : ∀ x ∈ cd_X6_readAll, OpOK qMT cX6_readAll RX6 4 (some .int) ini 0 0 none x.1 x.2 :=
  kc (ok_aload_n dX6_readAll_0 rfl) (
  kc (ok_iconst dX6_readAll_1 (by decide)) (
  kc (ok_putI (T := TX6) (k := 13) dX6_readAll_2 rfl hin_X6 tyX6_ok nmX6 (by decide) hw_666 rfl (tyX6_ok 13 (by decide))) (
  kc (ok_aload_n dX6_readAll_5 rfl) (
  kc (ok_iconst dX6_readAll_6 (by decide)) (
  kc (ok_putZ (T := TX6) (k := 14) dX6_readAll_7 rfl hin_X6 tyX6_ok nmX6 (by decide) hw_667 rfl (tyX6_ok 14 (by decide))) (
  kc (ok_iconst dX6_readAll_10 (by decide)) (
  kc (ok_istore_n dX6_readAll_11 rfl) (
  kc (ok_iconst dX6_readAll_12 (by decide)) (
  kc (ok_istore_n dX6_readAll_13 rfl) (
  kc (ok_iload_n dX6_readAll_14 rfl) (
  kc (ok_if_eq dX6_readAll_15 (by decide)) (
  kc (ok_iload_n dX6_readAll_18 rfl) (
  kc (ok_if_eq dX6_readAll_19 (by decide)) (
  kc (ok_aload_n dX6_readAll_22 rfl) (
  kc (ok_bipush dX6_readAll_23 (by decide)) (
  kc (ok_iload_n dX6_readAll_25 rfl) (
  kc (ok_imul dX6_readAll_26) (
  kc (ok_callV (T := TX6) dX6_readAll_27 qm_129 rfl rfl rfl hw_850 hw_852 hw_28 qp_129) (
  kc (ok_goto dX6_readAll_30 (by decide)) (
  kc (ok_aload_n dX6_readAll_33 rfl) (
  kc (ok_get (T := TX6) (k := 15) dX6_readAll_34 rfl hin_X6 (by decide) hw_668) (
  kc (ok_iconst dX6_readAll_37 (by decide)) (
  kc (ok_iload_n dX6_readAll_38 rfl) (
  kc (ok_imul dX6_readAll_39) (
  kc (ok_aload_n dX6_readAll_40 rfl) (
  kc (ok_bipush dX6_readAll_41 (by decide)) (
  kc (ok_callV (T := TX6) dX6_readAll_43 qm_130 rfl rfl rfl hw_867 hw_869 hw_32 qp_130) (
  kc (ok_iastore dX6_readAll_46) (
  kc (ok_aload_n dX6_readAll_47 rfl) (
  kc (ok_get (T := TX6) (k := 15) dX6_readAll_48 rfl hin_X6 (by decide) hw_668) (
  kc (ok_iconst dX6_readAll_51 (by decide)) (
  kc (ok_iload_n dX6_readAll_52 rfl) (
  kc (ok_imul dX6_readAll_53) (
  kc (ok_iconst dX6_readAll_54 (by decide)) (
  kc (ok_iadd dX6_readAll_55) (
  kc (ok_aload_n dX6_readAll_56 rfl) (
  kc (ok_aload_n dX6_readAll_57 rfl) (
  kc (ok_get (T := TX6) (k := 15) dX6_readAll_58 rfl hin_X6 (by decide) hw_668) (
  kc (ok_iconst dX6_readAll_61 (by decide)) (
  kc (ok_iload_n dX6_readAll_62 rfl) (
  kc (ok_imul dX6_readAll_63) (
  kc (ok_iaload dX6_readAll_64) (
  kc (ok_callV (T := TX6) dX6_readAll_65 qm_130 rfl rfl rfl hw_867 hw_869 hw_32 qp_130) (
  kc (ok_iastore dX6_readAll_68) (
  kc (ok_iinc dX6_readAll_69 (by decide)) (
  kc (ok_iload_n dX6_readAll_72 rfl) (
  kc (ok_iload_n dX6_readAll_73 rfl) (
  kc (ok_if_eq dX6_readAll_74 (by decide)) (
  kc (ok_bipush dX6_readAll_77 (by decide)) (
  kc (ok_goto dX6_readAll_79 (by decide)) (
  kc (ok_bipush dX6_readAll_82 (by decide)) (
  kc (ok_cm_ge dX6_readAll_84 (by decide)) (
  kc (ok_aload_n dX6_readAll_87 rfl) (
  kc (ok_iload_n dX6_readAll_88 rfl) (
  kc (ok_if_eq dX6_readAll_89 (by decide)) (
  kc (ok_bipush dX6_readAll_92 (by decide)) (
  kc (ok_goto dX6_readAll_94 (by decide)) (
  kc (ok_bipush dX6_readAll_97 (by decide)) (
  kc (ok_callV (T := TX6) dX6_readAll_99 qm_127 rfl rfl rfl hw_854 hw_856 hw_29 qp_127) (
  kc (ok_if_eq dX6_readAll_102 (by decide)) (
  kc (ok_iconst dX6_readAll_105 (by decide)) (
  kc (ok_goto dX6_readAll_106 (by decide)) (
  kc (ok_iconst dX6_readAll_109 (by decide)) (
  kc (ok_istore_n dX6_readAll_110 rfl) (
  kc (ok_goto dX6_readAll_111 (by decide)) (
  kc (ok_aload_n dX6_readAll_114 rfl) (
  kc (ok_aload_n dX6_readAll_115 rfl) (
  kc (ok_get (T := TX6) (k := 14) dX6_readAll_116 rfl hin_X6 (by decide) hw_667) (
  kc (ok_if_ne dX6_readAll_119 (by decide)) (
  kc (ok_aload_n dX6_readAll_122 rfl) (
  kc (ok_callV (T := TX6) dX6_readAll_123 qm_126 rfl rfl rfl hw_858 hw_860 hw_30 qp_126) (
  kc (ok_if_eq dX6_readAll_126 (by decide)) (
  kc (ok_iconst dX6_readAll_129 (by decide)) (
  kc (ok_goto dX6_readAll_130 (by decide)) (
  kc (ok_iconst dX6_readAll_133 (by decide)) (
  kc (ok_putZ (T := TX6) (k := 14) dX6_readAll_134 rfl hin_X6 tyX6_ok nmX6 (by decide) hw_667 rfl (tyX6_ok 14 (by decide))) (
  kc (ok_aload_n dX6_readAll_137 rfl) (
  kc (ok_iconst dX6_readAll_138 (by decide)) (
  kc (ok_putI (T := TX6) (k := 12) dX6_readAll_139 rfl hin_X6 tyX6_ok nmX6 (by decide) hw_665 rfl (tyX6_ok 12 (by decide))) (
  kc (ok_aload_n dX6_readAll_142 rfl) (
  kc (ok_get (T := TX6) (k := 14) dX6_readAll_143 rfl hin_X6 (by decide) hw_667) (
  kc (ok_if_eq dX6_readAll_146 (by decide)) (
  kc (ok_bipush dX6_readAll_149 (by decide)) (
  kc (ok_aload_n dX6_readAll_151 rfl) (
  kc (ok_get (T := TX6) (k := 13) dX6_readAll_152 rfl hin_X6 (by decide) hw_666) (
  kc (ok_isub dX6_readAll_155) (
  kc (ok_goto dX6_readAll_156 (by decide)) (
  kc (ok_iload_n dX6_readAll_159 rfl) (
  kc (ok_retI dX6_readAll_160 rfl) (
  kn))))))))))))))))))))))))))))))))))))))))))))))))))))))))))))))))))))))))))))))))))))))))))
def cd_X6_village : List (Nat × qOp) := [
  (0, oLdA 0 1),
  (1, oI (1) 2),
  (2, oCallV 131 6 1 0 0 0 0 5),
  (5, oStI 1 6),
  (6, oLdI 1 7),
  (7, oIfLe 25 10),
  (10, oLdA 0 11),
  (11, oLdI 1 12),
  (12, oPutI 6 3 15),
  (15, oLdA 0 16),
  (16, oI (0) 17),
  (17, oPutI 6 6 20),
  (20, oLdA 0 21),
  (21, oI (0) 22),
  (22, oPutI 6 9 25),
  (25, oI (0) 26),
  (26, oStI 2 27),
  (27, oLdI 2 28),
  (28, oLdI 1 29),
  (29, oCmGe 91 32),
  (32, oLdA 0 33),
  (33, oGet 6 4 36),
  (36, oLdI 2 37),
  (37, oLdA 0 38),
  (38, oGet 6 15 41),
  (41, oI (7) 43),
  (43, oLdI 2 44),
  (44, oBin (fun x y => x * y) 45),
  (45, oALd 46),
  (46, oASt 47),
  (47, oI (0) 48),
  (48, oStI 3 49),
  (49, oLdI 3 50),
  (50, oI (6) 52),
  (52, oCmGe 85 55),
  (55, oLdA 0 56),
  (56, oGet 6 5 59),
  (59, oI (6) 61),
  (61, oLdI 2 62),
  (62, oBin (fun x y => x * y) 63),
  (63, oLdI 3 64),
  (64, oBin (fun x y => x + y) 65),
  (65, oLdA 0 66),
  (66, oGet 6 15 69),
  (69, oI (7) 71),
  (71, oLdI 2 72),
  (72, oBin (fun x y => x * y) 73),
  (73, oI (1) 74),
  (74, oBin (fun x y => x + y) 75),
  (75, oLdI 3 76),
  (76, oBin (fun x y => x + y) 77),
  (77, oALd 78),
  (78, oASt 79),
  (79, oInc 3 (1) 82),
  (82, oGoto 49),
  (85, oInc 2 (1) 88),
  (88, oGoto 27),
  (91, oLdI 1 92),
  (92, oRetI)]
set_option maxRecDepth 100000 in
theorem ck_X6_village {ini : Bool} : ∀ x ∈ cd_X6_village, OpOK qMT cX6_village RX6 4 (some .int) ini 0 0 none x.1 x.2 :=
  kc (ok_aload_n dX6_village_0 rfl) (
  kc (ok_iconst dX6_village_1 (by decide)) (
  kc (ok_callV (T := TX6) dX6_village_2 qm_131 rfl rfl rfl hw_846 hw_848 hw_27 qp_131) (
  kc (ok_istore_n dX6_village_5 rfl) (
  kc (ok_iload_n dX6_village_6 rfl) (
  kc (ok_if_le dX6_village_7 (by decide)) (
  kc (ok_aload_n dX6_village_10 rfl) (
  kc (ok_iload_n dX6_village_11 rfl) (
  kc (ok_putI (T := TX6) (k := 3) dX6_village_12 rfl hin_X6 tyX6_ok nmX6 (by decide) hw_656 rfl (tyX6_ok 3 (by decide))) (
  kc (ok_aload_n dX6_village_15 rfl) (
  kc (ok_iconst dX6_village_16 (by decide)) (
  kc (ok_putI (T := TX6) (k := 6) dX6_village_17 rfl hin_X6 tyX6_ok nmX6 (by decide) hw_659 rfl (tyX6_ok 6 (by decide))) (
  kc (ok_aload_n dX6_village_20 rfl) (
  kc (ok_iconst dX6_village_21 (by decide)) (
  kc (ok_putI (T := TX6) (k := 9) dX6_village_22 rfl hin_X6 tyX6_ok nmX6 (by decide) hw_662 rfl (tyX6_ok 9 (by decide))) (
  kc (ok_iconst dX6_village_25 (by decide)) (
  kc (ok_istore_n dX6_village_26 rfl) (
  kc (ok_iload_n dX6_village_27 rfl) (
  kc (ok_iload_n dX6_village_28 rfl) (
  kc (ok_cm_ge dX6_village_29 (by decide)) (
  kc (ok_aload_n dX6_village_32 rfl) (
  kc (ok_get (T := TX6) (k := 4) dX6_village_33 rfl hin_X6 (by decide) hw_657) (
  kc (ok_iload_n dX6_village_36 rfl) (
  kc (ok_aload_n dX6_village_37 rfl) (
  kc (ok_get (T := TX6) (k := 15) dX6_village_38 rfl hin_X6 (by decide) hw_668) (
  kc (ok_bipush dX6_village_41 (by decide)) (
  kc (ok_iload_n dX6_village_43 rfl) (
  kc (ok_imul dX6_village_44) (
  kc (ok_iaload dX6_village_45) (
  kc (ok_iastore dX6_village_46) (
  kc (ok_iconst dX6_village_47 (by decide)) (
  kc (ok_istore_n dX6_village_48 rfl) (
  kc (ok_iload_n dX6_village_49 rfl) (
  kc (ok_bipush dX6_village_50 (by decide)) (
  kc (ok_cm_ge dX6_village_52 (by decide)) (
  kc (ok_aload_n dX6_village_55 rfl) (
  kc (ok_get (T := TX6) (k := 5) dX6_village_56 rfl hin_X6 (by decide) hw_658) (
  kc (ok_bipush dX6_village_59 (by decide)) (
  kc (ok_iload_n dX6_village_61 rfl) (
  kc (ok_imul dX6_village_62) (
  kc (ok_iload_n dX6_village_63 rfl) (
  kc (ok_iadd dX6_village_64) (
  kc (ok_aload_n dX6_village_65 rfl) (
  kc (ok_get (T := TX6) (k := 15) dX6_village_66 rfl hin_X6 (by decide) hw_668) (
  kc (ok_bipush dX6_village_69 (by decide)) (
  kc (ok_iload_n dX6_village_71 rfl) (
  kc (ok_imul dX6_village_72) (
  kc (ok_iconst dX6_village_73 (by decide)) (
  kc (ok_iadd dX6_village_74) (
  kc (ok_iload_n dX6_village_75 rfl) (
  kc (ok_iadd dX6_village_76) (
  kc (ok_iaload dX6_village_77) (
  kc (ok_iastore dX6_village_78) (
  kc (ok_iinc dX6_village_79 (by decide)) (
  kc (ok_goto dX6_village_82 (by decide)) (
  kc (ok_iinc dX6_village_85 (by decide)) (
  kc (ok_goto dX6_village_88 (by decide)) (
  kc (ok_iload_n dX6_village_91 rfl) (
  kc (ok_retI dX6_village_92 rfl) (
  kn)))))))))))))))))))))))))))))))))))))))))))))))))))))))))))
def cd_X6_suits : List (Nat × qOp) := [
  (0, oLdA 0 1),
  (1, oI (0) 2),
  (2, oCallV 131 6 1 0 0 0 0 5),
  (5, oStI 1 6),
  (6, oLdI 1 7),
  (7, oIfLe 24 10),
  (10, oLdA 0 11),
  (11, oGet 6 6 14),
  (14, oLdI 1 15),
  (15, oBin (fun x y => x + y) 16),
  (16, oI (12) 18),
  (18, oCmLe 24 21),
  (21, oI (-3) 23),
  (23, oRetI),
  (24, oI (0) 25),
  (25, oStI 2 26),
  (26, oLdI 2 27),
  (27, oLdI 1 28),
  (28, oCmGe 60 31),
  (31, oLdA 0 32),
  (32, oLdA 0 33),
  (33, oGet 6 15 36),
  (36, oI (2) 37),
  (37, oLdI 2 38),
  (38, oBin (fun x y => x * y) 39),
  (39, oALd 40),
  (40, oLdA 0 41),
  (41, oGet 6 15 44),
  (44, oI (2) 45),
  (45, oLdI 2 46),
  (46, oBin (fun x y => x * y) 47),
  (47, oI (1) 48),
  (48, oBin (fun x y => x + y) 49),
  (49, oALd 50),
  (50, oCallV 114 6 2 0 0 0 0 53),
  (53, oPop 54),
  (54, oInc 2 (1) 57),
  (57, oGoto 26),
  (60, oLdI 1 61),
  (61, oRetI)]
set_option maxRecDepth 100000 in
theorem ck_X6_suits {ini : Bool} : ∀ x ∈ cd_X6_suits, OpOK qMT cX6_suits RX6 3 (some .int) ini 0 0 none x.1 x.2 :=
  kc (ok_aload_n dX6_suits_0 rfl) (
  kc (ok_iconst dX6_suits_1 (by decide)) (
  kc (ok_callV (T := TX6) dX6_suits_2 qm_131 rfl rfl rfl hw_846 hw_848 hw_27 qp_131) (
  kc (ok_istore_n dX6_suits_5 rfl) (
  kc (ok_iload_n dX6_suits_6 rfl) (
  kc (ok_if_le dX6_suits_7 (by decide)) (
  kc (ok_aload_n dX6_suits_10 rfl) (
  kc (ok_get (T := TX6) (k := 6) dX6_suits_11 rfl hin_X6 (by decide) hw_659) (
  kc (ok_iload_n dX6_suits_14 rfl) (
  kc (ok_iadd dX6_suits_15) (
  kc (ok_bipush dX6_suits_16 (by decide)) (
  kc (ok_cm_le dX6_suits_18 (by decide)) (
  kc (ok_bipush dX6_suits_21 (by decide)) (
  kc (ok_retI dX6_suits_23 rfl) (
  kc (ok_iconst dX6_suits_24 (by decide)) (
  kc (ok_istore_n dX6_suits_25 rfl) (
  kc (ok_iload_n dX6_suits_26 rfl) (
  kc (ok_iload_n dX6_suits_27 rfl) (
  kc (ok_cm_ge dX6_suits_28 (by decide)) (
  kc (ok_aload_n dX6_suits_31 rfl) (
  kc (ok_aload_n dX6_suits_32 rfl) (
  kc (ok_get (T := TX6) (k := 15) dX6_suits_33 rfl hin_X6 (by decide) hw_668) (
  kc (ok_iconst dX6_suits_36 (by decide)) (
  kc (ok_iload_n dX6_suits_37 rfl) (
  kc (ok_imul dX6_suits_38) (
  kc (ok_iaload dX6_suits_39) (
  kc (ok_aload_n dX6_suits_40 rfl) (
  kc (ok_get (T := TX6) (k := 15) dX6_suits_41 rfl hin_X6 (by decide) hw_668) (
  kc (ok_iconst dX6_suits_44 (by decide)) (
  kc (ok_iload_n dX6_suits_45 rfl) (
  kc (ok_imul dX6_suits_46) (
  kc (ok_iconst dX6_suits_47 (by decide)) (
  kc (ok_iadd dX6_suits_48) (
  kc (ok_iaload dX6_suits_49) (
  kc (ok_callV (T := TX6) dX6_suits_50 qm_114 rfl rfl rfl hw_793 hw_795 hw_23 qp_114) (
  kc (ok_pop dX6_suits_53) (
  kc (ok_iinc dX6_suits_54 (by decide)) (
  kc (ok_goto dX6_suits_57 (by decide)) (
  kc (ok_iload_n dX6_suits_60 rfl) (
  kc (ok_retI dX6_suits_61 rfl) (
  kn))))))))))))))))))))))))))))))))))))))))
def cd_X6_stay : List (Nat × qOp) := [
  (0, oI (0) 1),
  (1, oStI 2 2),
  (2, oLdI 2 3),
  (3, oLdA 0 4),
  (4, oGet 6 6 7),
  (7, oCmGe 121 10),
  (10, oLdA 0 11),
  (11, oGet 6 2 14),
  (14, oI (0) 15),
  (15, oALd 16),
  (16, oI (1) 17),
  (17, oCmNe 121 20),
  (20, oLdA 0 21),
  (21, oGet 6 4 24),
  (24, oLdI 1 25),
  (25, oALd 26),
  (26, oI (6) 28),
  (28, oCmEq 121 31),
  (31, oLdA 0 32),
  (32, oGet 6 7 35),
  (35, oLdI 2 36),
  (36, oLdA 0 37),
  (37, oLdI 2 38),
  (38, oCallV 108 6 1 0 0 0 0 41),
  (41, oIfNe 66 44),
  (44, oLdA 0 45),
  (45, oGet 6 7 48),
  (48, oLdI 2 49),
  (49, oALd 50),
  (50, oLdI 1 51),
  (51, oCmNe 66 54),
  (54, oI (10) 56),
  (56, oLdA 0 57),
  (57, oGet 6 4 60),
  (60, oLdI 1 61),
  (61, oALd 62),
  (62, oBin (fun x y => x + y) 63),
  (63, oGoto 72),
  (66, oLdA 0 67),
  (67, oGet 6 7 70),
  (70, oLdI 2 71),
  (71, oALd 72),
  (72, oASt 73),
  (73, oLdA 0 74),
  (74, oGet 6 8 77),
  (77, oLdI 2 78),
  (78, oLdA 0 79),
  (79, oLdI 2 80),
  (80, oCallV 108 6 1 0 0 0 0 83),
  (83, oIfNe 108 86),
  (86, oLdA 0 87),
  (87, oGet 6 8 90),
  (90, oLdI 2 91),
  (91, oALd 92),
  (92, oLdI 1 93),
  (93, oCmNe 108 96),
  (96, oI (10) 98),
  (98, oLdA 0 99),
  (99, oGet 6 4 102),
  (102, oLdI 1 103),
  (103, oALd 104),
  (104, oBin (fun x y => x + y) 105),
  (105, oGoto 114),
  (108, oLdA 0 109),
  (109, oGet 6 8 112),
  (112, oLdI 2 113),
  (113, oALd 114),
  (114, oASt 115),
  (115, oInc 2 (1) 118),
  (118, oGoto 2),
  (121, oRetV)]
set_option maxRecDepth 100000 in
theorem ck_X6_stay {ini : Bool} : ∀ x ∈ cd_X6_stay, OpOK qMT cX6_stay RX6 3 none ini 0 0 none x.1 x.2 :=
  kc (ok_iconst dX6_stay_0 (by decide)) (
  kc (ok_istore_n dX6_stay_1 rfl) (
  kc (ok_iload_n dX6_stay_2 rfl) (
  kc (ok_aload_n dX6_stay_3 rfl) (
  kc (ok_get (T := TX6) (k := 6) dX6_stay_4 rfl hin_X6 (by decide) hw_659) (
  kc (ok_cm_ge dX6_stay_7 (by decide)) (
  kc (ok_aload_n dX6_stay_10 rfl) (
  kc (ok_get (T := TX6) (k := 2) dX6_stay_11 rfl hin_X6 (by decide) hw_655) (
  kc (ok_iconst dX6_stay_14 (by decide)) (
  kc (ok_iaload dX6_stay_15) (
  kc (ok_iconst dX6_stay_16 (by decide)) (
  kc (ok_cm_ne dX6_stay_17 (by decide)) (
  kc (ok_aload_n dX6_stay_20 rfl) (
  kc (ok_get (T := TX6) (k := 4) dX6_stay_21 rfl hin_X6 (by decide) hw_657) (
  kc (ok_iload_n dX6_stay_24 rfl) (
  kc (ok_iaload dX6_stay_25) (
  kc (ok_bipush dX6_stay_26 (by decide)) (
  kc (ok_cm_eq dX6_stay_28 (by decide)) (
  kc (ok_aload_n dX6_stay_31 rfl) (
  kc (ok_get (T := TX6) (k := 7) dX6_stay_32 rfl hin_X6 (by decide) hw_660) (
  kc (ok_iload_n dX6_stay_35 rfl) (
  kc (ok_aload_n dX6_stay_36 rfl) (
  kc (ok_iload_n dX6_stay_37 rfl) (
  kc (ok_callV (T := TX6) dX6_stay_38 qm_108 rfl rfl rfl hw_766 hw_768 hw_20 qp_108) (
  kc (ok_if_ne dX6_stay_41 (by decide)) (
  kc (ok_aload_n dX6_stay_44 rfl) (
  kc (ok_get (T := TX6) (k := 7) dX6_stay_45 rfl hin_X6 (by decide) hw_660) (
  kc (ok_iload_n dX6_stay_48 rfl) (
  kc (ok_iaload dX6_stay_49) (
  kc (ok_iload_n dX6_stay_50 rfl) (
  kc (ok_cm_ne dX6_stay_51 (by decide)) (
  kc (ok_bipush dX6_stay_54 (by decide)) (
  kc (ok_aload_n dX6_stay_56 rfl) (
  kc (ok_get (T := TX6) (k := 4) dX6_stay_57 rfl hin_X6 (by decide) hw_657) (
  kc (ok_iload_n dX6_stay_60 rfl) (
  kc (ok_iaload dX6_stay_61) (
  kc (ok_iadd dX6_stay_62) (
  kc (ok_goto dX6_stay_63 (by decide)) (
  kc (ok_aload_n dX6_stay_66 rfl) (
  kc (ok_get (T := TX6) (k := 7) dX6_stay_67 rfl hin_X6 (by decide) hw_660) (
  kc (ok_iload_n dX6_stay_70 rfl) (
  kc (ok_iaload dX6_stay_71) (
  kc (ok_iastore dX6_stay_72) (
  kc (ok_aload_n dX6_stay_73 rfl) (
  kc (ok_get (T := TX6) (k := 8) dX6_stay_74 rfl hin_X6 (by decide) hw_661) (
  kc (ok_iload_n dX6_stay_77 rfl) (
  kc (ok_aload_n dX6_stay_78 rfl) (
  kc (ok_iload_n dX6_stay_79 rfl) (
  kc (ok_callV (T := TX6) dX6_stay_80 qm_108 rfl rfl rfl hw_766 hw_768 hw_20 qp_108) (
  kc (ok_if_ne dX6_stay_83 (by decide)) (
  kc (ok_aload_n dX6_stay_86 rfl) (
  kc (ok_get (T := TX6) (k := 8) dX6_stay_87 rfl hin_X6 (by decide) hw_661) (
  kc (ok_iload_n dX6_stay_90 rfl) (
  kc (ok_iaload dX6_stay_91) (
  kc (ok_iload_n dX6_stay_92 rfl) (
  kc (ok_cm_ne dX6_stay_93 (by decide)) (
  kc (ok_bipush dX6_stay_96 (by decide)) (
  kc (ok_aload_n dX6_stay_98 rfl) (
  kc (ok_get (T := TX6) (k := 4) dX6_stay_99 rfl hin_X6 (by decide) hw_657) (
  kc (ok_iload_n dX6_stay_102 rfl) (
  kc (ok_iaload dX6_stay_103) (
  kc (ok_iadd dX6_stay_104) (
  kc (ok_goto dX6_stay_105 (by decide)) (
  kc (ok_aload_n dX6_stay_108 rfl) (
  kc (ok_get (T := TX6) (k := 8) dX6_stay_109 rfl hin_X6 (by decide) hw_661) (
  kc (ok_iload_n dX6_stay_112 rfl) (
  kc (ok_iaload dX6_stay_113) (
  kc (ok_iastore dX6_stay_114) (
  kc (ok_iinc dX6_stay_115 (by decide)) (
  kc (ok_goto dX6_stay_118 (by decide)) (
  kc (ok_retV dX6_stay_121 rfl) (
  kn)))))))))))))))))))))))))))))))))))))))))))))))))))))))))))))))))))))))
def cd_X6_sells : List (Nat × qOp) := [
  (0, oLdA 0 1),
  (1, oLdI 1 2),
  (2, oCallV 134 6 1 0 0 0 0 5),
  (5, oLdA 0 6),
  (6, oGet 6 4 9),
  (9, oLdI 1 10),
  (10, oLdI 2 11),
  (11, oASt 12),
  (12, oLdA 0 13),
  (13, oCallV 109 6 0 0 0 0 0 16),
  (16, oRetI)]
set_option maxRecDepth 100000 in
theorem ck_X6_sells {ini : Bool} : ∀ x ∈ cd_X6_sells, OpOK qMT cX6_sells RX6 3 (some .int) ini 0 0 none x.1 x.2 :=
  kc (ok_aload_n dX6_sells_0 rfl) (
  kc (ok_iload_n dX6_sells_1 rfl) (
  kc (ok_callV (T := TX6) dX6_sells_2 qm_134 rfl rfl rfl hw_890 hw_892 hw_35 qp_134) (
  kc (ok_aload_n dX6_sells_5 rfl) (
  kc (ok_get (T := TX6) (k := 4) dX6_sells_6 rfl hin_X6 (by decide) hw_657) (
  kc (ok_iload_n dX6_sells_9 rfl) (
  kc (ok_iload_n dX6_sells_10 rfl) (
  kc (ok_iastore dX6_sells_11) (
  kc (ok_aload_n dX6_sells_12 rfl) (
  kc (ok_callV (T := TX6) dX6_sells_13 qm_109 rfl rfl rfl hw_758 hw_760 hw_18 qp_109) (
  kc (ok_retI dX6_sells_16 rfl) (
  kn)))))))))))
def cd_X6_comesTo : List (Nat × qOp) := [
  (0, oLdI 1 1),
  (1, oI (6) 3),
  (3, oCmEq 40 6),
  (6, oLdA 0 7),
  (7, oGet 6 0 10),
  (10, oLdI 1 11),
  (11, oLdA 0 12),
  (12, oGet 6 0 15),
  (15, oLdI 1 16),
  (16, oALd 17),
  (17, oLdI 2 18),
  (18, oBin (fun x y => x + y) 19),
  (19, oI (9999) 22),
  (22, oCmLe 31 25),
  (25, oI (9999) 28),
  (28, oGoto 39),
  (31, oLdA 0 32),
  (32, oGet 6 0 35),
  (35, oLdI 1 36),
  (36, oALd 37),
  (37, oLdI 2 38),
  (38, oBin (fun x y => x + y) 39),
  (39, oASt 40),
  (40, oRetV)]
set_option maxRecDepth 100000 in
theorem ck_X6_comesTo {ini : Bool} : ∀ x ∈ cd_X6_comesTo, OpOK qMT cX6_comesTo RX6 3 none ini 0 0 none x.1 x.2 :=
  kc (ok_iload_n dX6_comesTo_0 rfl) (
  kc (ok_bipush dX6_comesTo_1 (by decide)) (
  kc (ok_cm_eq dX6_comesTo_3 (by decide)) (
  kc (ok_aload_n dX6_comesTo_6 rfl) (
  kc (ok_get (T := TX6) (k := 0) dX6_comesTo_7 rfl hin_X6 (by decide) hw_653) (
  kc (ok_iload_n dX6_comesTo_10 rfl) (
  kc (ok_aload_n dX6_comesTo_11 rfl) (
  kc (ok_get (T := TX6) (k := 0) dX6_comesTo_12 rfl hin_X6 (by decide) hw_653) (
  kc (ok_iload_n dX6_comesTo_15 rfl) (
  kc (ok_iaload dX6_comesTo_16) (
  kc (ok_iload_n dX6_comesTo_17 rfl) (
  kc (ok_iadd dX6_comesTo_18) (
  kc (ok_sipush dX6_comesTo_19 (by decide)) (
  kc (ok_cm_le dX6_comesTo_22 (by decide)) (
  kc (ok_sipush dX6_comesTo_25 (by decide)) (
  kc (ok_goto dX6_comesTo_28 (by decide)) (
  kc (ok_aload_n dX6_comesTo_31 rfl) (
  kc (ok_get (T := TX6) (k := 0) dX6_comesTo_32 rfl hin_X6 (by decide) hw_653) (
  kc (ok_iload_n dX6_comesTo_35 rfl) (
  kc (ok_iaload dX6_comesTo_36) (
  kc (ok_iload_n dX6_comesTo_37 rfl) (
  kc (ok_iadd dX6_comesTo_38) (
  kc (ok_iastore dX6_comesTo_39) (
  kc (ok_retV dX6_comesTo_40 rfl) (
  kn))))))))))))))))))))))))
def cd_X6_sale : List (Nat × qOp) := [
  (0, oLdA 0 1),
  (1, oLdI 1 2),
  (2, oCallV 105 6 1 0 0 0 0 5),
  (5, oIfEq 27 8),
  (8, oLdI 2 9),
  (9, oCallS 104 1 0 0 0 0 12),
  (12, oIfEq 27 15),
  (15, oLdI 3 16),
  (16, oI2L 17),
  (17, oL (0) 18),
  (18, oL (999) 21),
  (21, oCallS 102 3 0 0 0 0 24),
  (24, oIfNe 29 27),
  (27, oI (-1) 28),
  (28, oRetI),
  (29, oLdA 0 30),
  (30, oGet 6 4 33),
  (33, oLdI 1 34),
  (34, oALd 35),
  (35, oLdI 2 36),
  (36, oCmEq 49 39),
  (39, oLdA 0 40),
  (40, oGet 6 0 43),
  (43, oLdI 2 44),
  (44, oALd 45),
  (45, oLdI 3 46),
  (46, oCmGe 52 49),
  (49, oI (-2) 51),
  (51, oRetI),
  (52, oLdA 0 53),
  (53, oGet 6 0 56),
  (56, oLdI 2 57),
  (57, oDup2 58),
  (58, oALd 59),
  (59, oLdI 3 60),
  (60, oBin (fun x y => x - y) 61),
  (61, oASt 62),
  (62, oLdA 0 63),
  (63, oLdA 0 64),
  (64, oGet 6 4 67),
  (67, oLdI 1 68),
  (68, oALd 69),
  (69, oLdI 3 70),
  (70, oCallV 136 6 2 0 0 0 0 73),
  (73, oLdA 0 74),
  (74, oDup 75),
  (75, oGet 6 10 78),
  (78, oI (1) 79),
  (79, oBin (fun x y => x + y) 80),
  (80, oPutI 6 10 83),
  (83, oLdA 0 84),
  (84, oLdI 1 85),
  (85, oLdI 2 86),
  (86, oCallV 135 6 2 0 0 0 0 89),
  (89, oRetI)]
set_option maxRecDepth 100000 in
theorem ck_X6_sale {ini : Bool} : ∀ x ∈ cd_X6_sale, OpOK qMT cX6_sale RX6 4 (some .int) ini 0 0 none x.1 x.2 :=
  kc (ok_aload_n dX6_sale_0 rfl) (
  kc (ok_iload_n dX6_sale_1 rfl) (
  kc (ok_callV (T := TX6) dX6_sale_2 qm_105 rfl rfl rfl hw_779 hw_781 hw_21 qp_105) (
  kc (ok_if_eq dX6_sale_5 (by decide)) (
  kc (ok_iload_n dX6_sale_8 rfl) (
  kc (ok_callS dX6_sale_9 qm_104 rfl rfl hw_745 hw_746 qp_104) (
  kc (ok_if_eq dX6_sale_12 (by decide)) (
  kc (ok_iload_n dX6_sale_15 rfl) (
  kc (ok_i2l dX6_sale_16) (
  kc (ok_lconst dX6_sale_17 (by decide)) (
  kc (ok_ldc2 dX6_sale_18 hw_752) (
  kc (ok_callS dX6_sale_21 qm_102 rfl rfl hw_749 hw_750 qp_102) (
  kc (ok_if_ne dX6_sale_24 (by decide)) (
  kc (ok_iconst dX6_sale_27 (by decide)) (
  kc (ok_retI dX6_sale_28 rfl) (
  kc (ok_aload_n dX6_sale_29 rfl) (
  kc (ok_get (T := TX6) (k := 4) dX6_sale_30 rfl hin_X6 (by decide) hw_657) (
  kc (ok_iload_n dX6_sale_33 rfl) (
  kc (ok_iaload dX6_sale_34) (
  kc (ok_iload_n dX6_sale_35 rfl) (
  kc (ok_cm_eq dX6_sale_36 (by decide)) (
  kc (ok_aload_n dX6_sale_39 rfl) (
  kc (ok_get (T := TX6) (k := 0) dX6_sale_40 rfl hin_X6 (by decide) hw_653) (
  kc (ok_iload_n dX6_sale_43 rfl) (
  kc (ok_iaload dX6_sale_44) (
  kc (ok_iload_n dX6_sale_45 rfl) (
  kc (ok_cm_ge dX6_sale_46 (by decide)) (
  kc (ok_bipush dX6_sale_49 (by decide)) (
  kc (ok_retI dX6_sale_51 rfl) (
  kc (ok_aload_n dX6_sale_52 rfl) (
  kc (ok_get (T := TX6) (k := 0) dX6_sale_53 rfl hin_X6 (by decide) hw_653) (
  kc (ok_iload_n dX6_sale_56 rfl) (
  kc (ok_dup2 dX6_sale_57) (
  kc (ok_iaload dX6_sale_58) (
  kc (ok_iload_n dX6_sale_59 rfl) (
  kc (ok_isub dX6_sale_60) (
  kc (ok_iastore dX6_sale_61) (
  kc (ok_aload_n dX6_sale_62 rfl) (
  kc (ok_aload_n dX6_sale_63 rfl) (
  kc (ok_get (T := TX6) (k := 4) dX6_sale_64 rfl hin_X6 (by decide) hw_657) (
  kc (ok_iload_n dX6_sale_67 rfl) (
  kc (ok_iaload dX6_sale_68) (
  kc (ok_iload_n dX6_sale_69 rfl) (
  kc (ok_callV (T := TX6) dX6_sale_70 qm_136 rfl rfl rfl hw_882 hw_884 hw_33 qp_136) (
  kc (ok_aload_n dX6_sale_73 rfl) (
  kc (ok_dup dX6_sale_74) (
  kc (ok_get (T := TX6) (k := 10) dX6_sale_75 rfl hin_X6 (by decide) hw_663) (
  kc (ok_iconst dX6_sale_78 (by decide)) (
  kc (ok_iadd dX6_sale_79) (
  kc (ok_putI (T := TX6) (k := 10) dX6_sale_80 rfl hin_X6 tyX6_ok nmX6 (by decide) hw_663 rfl (tyX6_ok 10 (by decide))) (
  kc (ok_aload_n dX6_sale_83 rfl) (
  kc (ok_iload_n dX6_sale_84 rfl) (
  kc (ok_iload_n dX6_sale_85 rfl) (
  kc (ok_callV (T := TX6) dX6_sale_86 qm_135 rfl rfl rfl hw_886 hw_888 hw_34 qp_135) (
  kc (ok_retI dX6_sale_89 rfl) (
  kn)))))))))))))))))))))))))))))))))))))))))))))))))))))))
def cd_X6_swap : List (Nat × qOp) := [
  (0, oLdA 0 1),
  (1, oLdI 1 2),
  (2, oCallV 105 6 1 0 0 0 0 5),
  (5, oIfEq 16 8),
  (8, oLdA 0 9),
  (9, oLdI 2 10),
  (10, oCallV 105 6 1 0 0 0 0 13),
  (13, oIfNe 18 16),
  (16, oI (-1) 17),
  (17, oRetI),
  (18, oLdA 0 19),
  (19, oGet 6 4 22),
  (22, oLdI 1 23),
  (23, oALd 24),
  (24, oLdA 0 25),
  (25, oGet 6 4 28),
  (28, oLdI 2 29),
  (29, oALd 30),
  (30, oCmNe 36 33),
  (33, oI (-2) 35),
  (35, oRetI),
  (36, oLdA 0 37),
  (37, oLdI 1 38),
  (38, oCallV 134 6 1 0 0 0 0 41),
  (41, oLdA 0 42),
  (42, oLdI 2 43),
  (43, oCallV 134 6 1 0 0 0 0 46),
  (46, oLdA 0 47),
  (47, oGet 6 4 50),
  (50, oLdI 1 51),
  (51, oALd 52),
  (52, oStI 3 53),
  (53, oLdA 0 54),
  (54, oGet 6 4 57),
  (57, oLdI 1 58),
  (58, oLdA 0 59),
  (59, oGet 6 4 62),
  (62, oLdI 2 63),
  (63, oALd 64),
  (64, oASt 65),
  (65, oLdA 0 66),
  (66, oGet 6 4 69),
  (69, oLdI 2 70),
  (70, oLdI 3 71),
  (71, oASt 72),
  (72, oLdA 0 73),
  (73, oDup 74),
  (74, oGet 6 10 77),
  (77, oI (2) 78),
  (78, oBin (fun x y => x + y) 79),
  (79, oPutI 6 10 82),
  (82, oLdA 0 83),
  (83, oCallV 109 6 0 0 0 0 0 86),
  (86, oRetI)]
set_option maxRecDepth 100000 in
theorem ck_X6_swap {ini : Bool} : ∀ x ∈ cd_X6_swap, OpOK qMT cX6_swap RX6 4 (some .int) ini 0 0 none x.1 x.2 :=
  kc (ok_aload_n dX6_swap_0 rfl) (
  kc (ok_iload_n dX6_swap_1 rfl) (
  kc (ok_callV (T := TX6) dX6_swap_2 qm_105 rfl rfl rfl hw_779 hw_781 hw_21 qp_105) (
  kc (ok_if_eq dX6_swap_5 (by decide)) (
  kc (ok_aload_n dX6_swap_8 rfl) (
  kc (ok_iload_n dX6_swap_9 rfl) (
  kc (ok_callV (T := TX6) dX6_swap_10 qm_105 rfl rfl rfl hw_779 hw_781 hw_21 qp_105) (
  kc (ok_if_ne dX6_swap_13 (by decide)) (
  kc (ok_iconst dX6_swap_16 (by decide)) (
  kc (ok_retI dX6_swap_17 rfl) (
  kc (ok_aload_n dX6_swap_18 rfl) (
  kc (ok_get (T := TX6) (k := 4) dX6_swap_19 rfl hin_X6 (by decide) hw_657) (
  kc (ok_iload_n dX6_swap_22 rfl) (
  kc (ok_iaload dX6_swap_23) (
  kc (ok_aload_n dX6_swap_24 rfl) (
  kc (ok_get (T := TX6) (k := 4) dX6_swap_25 rfl hin_X6 (by decide) hw_657) (
  kc (ok_iload_n dX6_swap_28 rfl) (
  kc (ok_iaload dX6_swap_29) (
  kc (ok_cm_ne dX6_swap_30 (by decide)) (
  kc (ok_bipush dX6_swap_33 (by decide)) (
  kc (ok_retI dX6_swap_35 rfl) (
  kc (ok_aload_n dX6_swap_36 rfl) (
  kc (ok_iload_n dX6_swap_37 rfl) (
  kc (ok_callV (T := TX6) dX6_swap_38 qm_134 rfl rfl rfl hw_890 hw_892 hw_35 qp_134) (
  kc (ok_aload_n dX6_swap_41 rfl) (
  kc (ok_iload_n dX6_swap_42 rfl) (
  kc (ok_callV (T := TX6) dX6_swap_43 qm_134 rfl rfl rfl hw_890 hw_892 hw_35 qp_134) (
  kc (ok_aload_n dX6_swap_46 rfl) (
  kc (ok_get (T := TX6) (k := 4) dX6_swap_47 rfl hin_X6 (by decide) hw_657) (
  kc (ok_iload_n dX6_swap_50 rfl) (
  kc (ok_iaload dX6_swap_51) (
  kc (ok_istore_n dX6_swap_52 rfl) (
  kc (ok_aload_n dX6_swap_53 rfl) (
  kc (ok_get (T := TX6) (k := 4) dX6_swap_54 rfl hin_X6 (by decide) hw_657) (
  kc (ok_iload_n dX6_swap_57 rfl) (
  kc (ok_aload_n dX6_swap_58 rfl) (
  kc (ok_get (T := TX6) (k := 4) dX6_swap_59 rfl hin_X6 (by decide) hw_657) (
  kc (ok_iload_n dX6_swap_62 rfl) (
  kc (ok_iaload dX6_swap_63) (
  kc (ok_iastore dX6_swap_64) (
  kc (ok_aload_n dX6_swap_65 rfl) (
  kc (ok_get (T := TX6) (k := 4) dX6_swap_66 rfl hin_X6 (by decide) hw_657) (
  kc (ok_iload_n dX6_swap_69 rfl) (
  kc (ok_iload_n dX6_swap_70 rfl) (
  kc (ok_iastore dX6_swap_71) (
  kc (ok_aload_n dX6_swap_72 rfl) (
  kc (ok_dup dX6_swap_73) (
  kc (ok_get (T := TX6) (k := 10) dX6_swap_74 rfl hin_X6 (by decide) hw_663) (
  kc (ok_iconst dX6_swap_77 (by decide)) (
  kc (ok_iadd dX6_swap_78) (
  kc (ok_putI (T := TX6) (k := 10) dX6_swap_79 rfl hin_X6 tyX6_ok nmX6 (by decide) hw_663 rfl (tyX6_ok 10 (by decide))) (
  kc (ok_aload_n dX6_swap_82 rfl) (
  kc (ok_callV (T := TX6) dX6_swap_83 qm_109 rfl rfl rfl hw_758 hw_760 hw_18 qp_109) (
  kc (ok_retI dX6_swap_86 rfl) (
  kn))))))))))))))))))))))))))))))))))))))))))))))))))))))
def cd_X6_give : List (Nat × qOp) := [
  (0, oLdA 0 1),
  (1, oLdI 1 2),
  (2, oCallV 105 6 1 0 0 0 0 5),
  (5, oIfNe 10 8),
  (8, oI (-1) 9),
  (9, oRetI),
  (10, oLdA 0 11),
  (11, oGet 6 4 14),
  (14, oLdI 1 15),
  (15, oALd 16),
  (16, oI (6) 18),
  (18, oCmNe 24 21),
  (21, oI (-2) 23),
  (23, oRetI),
  (24, oLdA 0 25),
  (25, oDup 26),
  (26, oGet 6 10 29),
  (29, oI (1) 30),
  (30, oBin (fun x y => x + y) 31),
  (31, oPutI 6 10 34),
  (34, oLdA 0 35),
  (35, oLdI 1 36),
  (36, oI (6) 38),
  (38, oCallV 135 6 2 0 0 0 0 41),
  (41, oRetI)]
set_option maxRecDepth 100000 in
theorem ck_X6_give {ini : Bool} : ∀ x ∈ cd_X6_give, OpOK qMT cX6_give RX6 2 (some .int) ini 0 0 none x.1 x.2 :=
  kc (ok_aload_n dX6_give_0 rfl) (
  kc (ok_iload_n dX6_give_1 rfl) (
  kc (ok_callV (T := TX6) dX6_give_2 qm_105 rfl rfl rfl hw_779 hw_781 hw_21 qp_105) (
  kc (ok_if_ne dX6_give_5 (by decide)) (
  kc (ok_iconst dX6_give_8 (by decide)) (
  kc (ok_retI dX6_give_9 rfl) (
  kc (ok_aload_n dX6_give_10 rfl) (
  kc (ok_get (T := TX6) (k := 4) dX6_give_11 rfl hin_X6 (by decide) hw_657) (
  kc (ok_iload_n dX6_give_14 rfl) (
  kc (ok_iaload dX6_give_15) (
  kc (ok_bipush dX6_give_16 (by decide)) (
  kc (ok_cm_ne dX6_give_18 (by decide)) (
  kc (ok_bipush dX6_give_21 (by decide)) (
  kc (ok_retI dX6_give_23 rfl) (
  kc (ok_aload_n dX6_give_24 rfl) (
  kc (ok_dup dX6_give_25) (
  kc (ok_get (T := TX6) (k := 10) dX6_give_26 rfl hin_X6 (by decide) hw_663) (
  kc (ok_iconst dX6_give_29 (by decide)) (
  kc (ok_iadd dX6_give_30) (
  kc (ok_putI (T := TX6) (k := 10) dX6_give_31 rfl hin_X6 tyX6_ok nmX6 (by decide) hw_663 rfl (tyX6_ok 10 (by decide))) (
  kc (ok_aload_n dX6_give_34 rfl) (
  kc (ok_iload_n dX6_give_35 rfl) (
  kc (ok_bipush dX6_give_36 (by decide)) (
  kc (ok_callV (T := TX6) dX6_give_38 qm_135 rfl rfl rfl hw_886 hw_888 hw_34 qp_135) (
  kc (ok_retI dX6_give_41 rfl) (
  kn)))))))))))))))))))))))))
def cd_X6_weds : List (Nat × qOp) := [
  (0, oI (0) 1),
  (1, oStI 3 2),
  (2, oLdI 3 3),
  (3, oLdA 0 4),
  (4, oGet 6 3 7),
  (7, oCmGe 42 10),
  (10, oLdA 0 11),
  (11, oGet 6 4 14),
  (14, oLdI 3 15),
  (15, oLdA 0 16),
  (16, oGet 6 4 19),
  (19, oLdI 3 20),
  (20, oALd 21),
  (21, oLdI 2 22),
  (22, oCmNe 29 25),
  (25, oLdI 1 26),
  (26, oGoto 35),
  (29, oLdA 0 30),
  (30, oGet 6 4 33),
  (33, oLdI 3 34),
  (34, oALd 35),
  (35, oASt 36),
  (36, oInc 3 (1) 39),
  (39, oGoto 2),
  (42, oI (0) 43),
  (43, oStI 3 44),
  (44, oLdI 3 45),
  (45, oLdA 0 46),
  (46, oGet 6 6 49),
  (49, oCmGe 122 52),
  (52, oLdA 0 53),
  (53, oGet 6 7 56),
  (56, oLdI 3 57),
  (57, oLdA 0 58),
  (58, oGet 6 7 61),
  (61, oLdI 3 62),
  (62, oALd 63),
  (63, oI (10) 65),
  (65, oLdI 2 66),
  (66, oBin (fun x y => x + y) 67),
  (67, oCmNe 77 70),
  (70, oI (10) 72),
  (72, oLdI 1 73),
  (73, oBin (fun x y => x + y) 74),
  (74, oGoto 83),
  (77, oLdA 0 78),
  (78, oGet 6 7 81),
  (81, oLdI 3 82),
  (82, oALd 83),
  (83, oASt 84),
  (84, oLdA 0 85),
  (85, oGet 6 8 88),
  (88, oLdI 3 89),
  (89, oLdA 0 90),
  (90, oGet 6 8 93),
  (93, oLdI 3 94),
  (94, oALd 95),
  (95, oI (10) 97),
  (97, oLdI 2 98),
  (98, oBin (fun x y => x + y) 99),
  (99, oCmNe 109 102),
  (102, oI (10) 104),
  (104, oLdI 1 105),
  (105, oBin (fun x y => x + y) 106),
  (106, oGoto 115),
  (109, oLdA 0 110),
  (110, oGet 6 8 113),
  (113, oLdI 3 114),
  (114, oALd 115),
  (115, oASt 116),
  (116, oInc 3 (1) 119),
  (119, oGoto 44),
  (122, oLdA 0 123),
  (123, oCallV 109 6 0 0 0 0 0 126),
  (126, oRetI)]
set_option maxRecDepth 100000 in
theorem ck_X6_weds {ini : Bool} : ∀ x ∈ cd_X6_weds, OpOK qMT cX6_weds RX6 4 (some .int) ini 0 0 none x.1 x.2 :=
  kc (ok_iconst dX6_weds_0 (by decide)) (
  kc (ok_istore_n dX6_weds_1 rfl) (
  kc (ok_iload_n dX6_weds_2 rfl) (
  kc (ok_aload_n dX6_weds_3 rfl) (
  kc (ok_get (T := TX6) (k := 3) dX6_weds_4 rfl hin_X6 (by decide) hw_656) (
  kc (ok_cm_ge dX6_weds_7 (by decide)) (
  kc (ok_aload_n dX6_weds_10 rfl) (
  kc (ok_get (T := TX6) (k := 4) dX6_weds_11 rfl hin_X6 (by decide) hw_657) (
  kc (ok_iload_n dX6_weds_14 rfl) (
  kc (ok_aload_n dX6_weds_15 rfl) (
  kc (ok_get (T := TX6) (k := 4) dX6_weds_16 rfl hin_X6 (by decide) hw_657) (
  kc (ok_iload_n dX6_weds_19 rfl) (
  kc (ok_iaload dX6_weds_20) (
  kc (ok_iload_n dX6_weds_21 rfl) (
  kc (ok_cm_ne dX6_weds_22 (by decide)) (
  kc (ok_iload_n dX6_weds_25 rfl) (
  kc (ok_goto dX6_weds_26 (by decide)) (
  kc (ok_aload_n dX6_weds_29 rfl) (
  kc (ok_get (T := TX6) (k := 4) dX6_weds_30 rfl hin_X6 (by decide) hw_657) (
  kc (ok_iload_n dX6_weds_33 rfl) (
  kc (ok_iaload dX6_weds_34) (
  kc (ok_iastore dX6_weds_35) (
  kc (ok_iinc dX6_weds_36 (by decide)) (
  kc (ok_goto dX6_weds_39 (by decide)) (
  kc (ok_iconst dX6_weds_42 (by decide)) (
  kc (ok_istore_n dX6_weds_43 rfl) (
  kc (ok_iload_n dX6_weds_44 rfl) (
  kc (ok_aload_n dX6_weds_45 rfl) (
  kc (ok_get (T := TX6) (k := 6) dX6_weds_46 rfl hin_X6 (by decide) hw_659) (
  kc (ok_cm_ge dX6_weds_49 (by decide)) (
  kc (ok_aload_n dX6_weds_52 rfl) (
  kc (ok_get (T := TX6) (k := 7) dX6_weds_53 rfl hin_X6 (by decide) hw_660) (
  kc (ok_iload_n dX6_weds_56 rfl) (
  kc (ok_aload_n dX6_weds_57 rfl) (
  kc (ok_get (T := TX6) (k := 7) dX6_weds_58 rfl hin_X6 (by decide) hw_660) (
  kc (ok_iload_n dX6_weds_61 rfl) (
  kc (ok_iaload dX6_weds_62) (
  kc (ok_bipush dX6_weds_63 (by decide)) (
  kc (ok_iload_n dX6_weds_65 rfl) (
  kc (ok_iadd dX6_weds_66) (
  kc (ok_cm_ne dX6_weds_67 (by decide)) (
  kc (ok_bipush dX6_weds_70 (by decide)) (
  kc (ok_iload_n dX6_weds_72 rfl) (
  kc (ok_iadd dX6_weds_73) (
  kc (ok_goto dX6_weds_74 (by decide)) (
  kc (ok_aload_n dX6_weds_77 rfl) (
  kc (ok_get (T := TX6) (k := 7) dX6_weds_78 rfl hin_X6 (by decide) hw_660) (
  kc (ok_iload_n dX6_weds_81 rfl) (
  kc (ok_iaload dX6_weds_82) (
  kc (ok_iastore dX6_weds_83) (
  kc (ok_aload_n dX6_weds_84 rfl) (
  kc (ok_get (T := TX6) (k := 8) dX6_weds_85 rfl hin_X6 (by decide) hw_661) (
  kc (ok_iload_n dX6_weds_88 rfl) (
  kc (ok_aload_n dX6_weds_89 rfl) (
  kc (ok_get (T := TX6) (k := 8) dX6_weds_90 rfl hin_X6 (by decide) hw_661) (
  kc (ok_iload_n dX6_weds_93 rfl) (
  kc (ok_iaload dX6_weds_94) (
  kc (ok_bipush dX6_weds_95 (by decide)) (
  kc (ok_iload_n dX6_weds_97 rfl) (
  kc (ok_iadd dX6_weds_98) (
  kc (ok_cm_ne dX6_weds_99 (by decide)) (
  kc (ok_bipush dX6_weds_102 (by decide)) (
  kc (ok_iload_n dX6_weds_104 rfl) (
  kc (ok_iadd dX6_weds_105) (
  kc (ok_goto dX6_weds_106 (by decide)) (
  kc (ok_aload_n dX6_weds_109 rfl) (
  kc (ok_get (T := TX6) (k := 8) dX6_weds_110 rfl hin_X6 (by decide) hw_661) (
  kc (ok_iload_n dX6_weds_113 rfl) (
  kc (ok_iaload dX6_weds_114) (
  kc (ok_iastore dX6_weds_115) (
  kc (ok_iinc dX6_weds_116 (by decide)) (
  kc (ok_goto dX6_weds_119 (by decide)) (
  kc (ok_aload_n dX6_weds_122 rfl) (
  kc (ok_callV (T := TX6) dX6_weds_123 qm_109 rfl rfl rfl hw_758 hw_760 hw_18 qp_109) (
  kc (ok_retI dX6_weds_126 rfl) (
  kn)))))))))))))))))))))))))))))))))))))))))))))))))))))))))))))))))))))))))))
def cd_X6_wed : List (Nat × qOp) := [
  (0, oLdI 1 1),
  (1, oCallS 104 1 0 0 0 0 4),
  (4, oIfEq 19 7),
  (7, oLdI 2 8),
  (8, oCallS 104 1 0 0 0 0 11),
  (11, oIfEq 19 14),
  (14, oLdI 1 15),
  (15, oLdI 2 16),
  (16, oCmNe 21 19),
  (19, oI (-1) 20),
  (20, oRetI),
  (21, oLdA 0 22),
  (22, oLdI 1 23),
  (23, oLdA 0 24),
  (24, oGet 6 0 27),
  (27, oLdI 2 28),
  (28, oALd 29),
  (29, oCallV 136 6 2 0 0 0 0 32),
  (32, oLdA 0 33),
  (33, oGet 6 0 36),
  (36, oLdI 2 37),
  (37, oI (0) 38),
  (38, oASt 39),
  (39, oLdA 0 40),
  (40, oLdI 1 41),
  (41, oLdI 2 42),
  (42, oCallV 140 6 2 0 0 0 0 45),
  (45, oRetI)]
set_option maxRecDepth 100000 in
theorem ck_X6_wed {ini : Bool} : ∀ x ∈ cd_X6_wed, OpOK qMT cX6_wed RX6 3 (some .int) ini 0 0 none x.1 x.2 :=
  kc (ok_iload_n dX6_wed_0 rfl) (
  kc (ok_callS dX6_wed_1 qm_104 rfl rfl hw_745 hw_746 qp_104) (
  kc (ok_if_eq dX6_wed_4 (by decide)) (
  kc (ok_iload_n dX6_wed_7 rfl) (
  kc (ok_callS dX6_wed_8 qm_104 rfl rfl hw_745 hw_746 qp_104) (
  kc (ok_if_eq dX6_wed_11 (by decide)) (
  kc (ok_iload_n dX6_wed_14 rfl) (
  kc (ok_iload_n dX6_wed_15 rfl) (
  kc (ok_cm_ne dX6_wed_16 (by decide)) (
  kc (ok_iconst dX6_wed_19 (by decide)) (
  kc (ok_retI dX6_wed_20 rfl) (
  kc (ok_aload_n dX6_wed_21 rfl) (
  kc (ok_iload_n dX6_wed_22 rfl) (
  kc (ok_aload_n dX6_wed_23 rfl) (
  kc (ok_get (T := TX6) (k := 0) dX6_wed_24 rfl hin_X6 (by decide) hw_653) (
  kc (ok_iload_n dX6_wed_27 rfl) (
  kc (ok_iaload dX6_wed_28) (
  kc (ok_callV (T := TX6) dX6_wed_29 qm_136 rfl rfl rfl hw_882 hw_884 hw_33 qp_136) (
  kc (ok_aload_n dX6_wed_32 rfl) (
  kc (ok_get (T := TX6) (k := 0) dX6_wed_33 rfl hin_X6 (by decide) hw_653) (
  kc (ok_iload_n dX6_wed_36 rfl) (
  kc (ok_iconst dX6_wed_37 (by decide)) (
  kc (ok_iastore dX6_wed_38) (
  kc (ok_aload_n dX6_wed_39 rfl) (
  kc (ok_iload_n dX6_wed_40 rfl) (
  kc (ok_iload_n dX6_wed_41 rfl) (
  kc (ok_callV (T := TX6) dX6_wed_42 qm_140 rfl rfl rfl hw_906 hw_908 hw_36 qp_140) (
  kc (ok_retI dX6_wed_45 rfl) (
  kn))))))))))))))))))))))))))))
def cd_X6_part : List (Nat × qOp) := [
  (0, oLdA 0 1),
  (1, oLdI 1 2),
  (2, oCallV 105 6 1 0 0 0 0 5),
  (5, oIfEq 26 8),
  (8, oLdI 2 9),
  (9, oI2L 10),
  (10, oL (0) 11),
  (11, oI (1) 12),
  (12, oLdA 0 13),
  (13, oGet 6 6 16),
  (16, oBin (fun x y => x <<< (y &&& 31)) 17),
  (17, oI (1) 18),
  (18, oBin (fun x y => x - y) 19),
  (19, oI2L 20),
  (20, oCallS 102 3 0 0 0 0 23),
  (23, oIfNe 28 26),
  (26, oI (-1) 27),
  (27, oRetI),
  (28, oLdA 0 29),
  (29, oGet 6 3 32),
  (32, oI (8) 34),
  (34, oCmNe 40 37),
  (37, oI (-3) 39),
  (39, oRetI),
  (40, oLdA 0 41),
  (41, oGet 6 4 44),
  (44, oLdA 0 45),
  (45, oGet 6 3 48),
  (48, oLdA 0 49),
  (49, oGet 6 4 52),
  (52, oLdI 1 53),
  (53, oALd 54),
  (54, oASt 55),
  (55, oI (0) 56),
  (56, oStI 3 57),
  (57, oLdI 3 58),
  (58, oI (6) 60),
  (60, oCmGe 118 63),
  (63, oLdA 0 64),
  (64, oGet 6 5 67),
  (67, oI (6) 69),
  (69, oLdI 1 70),
  (70, oBin (fun x y => x * y) 71),
  (71, oLdI 3 72),
  (72, oBin (fun x y => x + y) 73),
  (73, oALd 74),
  (74, oStI 4 76),
  (76, oLdA 0 77),
  (77, oGet 6 5 80),
  (80, oI (6) 82),
  (82, oLdA 0 83),
  (83, oGet 6 3 86),
  (86, oBin (fun x y => x * y) 87),
  (87, oLdI 3 88),
  (88, oBin (fun x y => x + y) 89),
  (89, oLdI 4 91),
  (91, oI (2) 92),
  (92, oDiv (fun x y => x / y) 93),
  (93, oASt 94),
  (94, oLdA 0 95),
  (95, oGet 6 5 98),
  (98, oI (6) 100),
  (100, oLdI 1 101),
  (101, oBin (fun x y => x * y) 102),
  (102, oLdI 3 103),
  (103, oBin (fun x y => x + y) 104),
  (104, oLdI 4 106),
  (106, oLdI 4 108),
  (108, oI (2) 109),
  (109, oDiv (fun x y => x / y) 110),
  (110, oBin (fun x y => x - y) 111),
  (111, oASt 112),
  (112, oInc 3 (1) 115),
  (115, oGoto 57),
  (118, oI (0) 119),
  (119, oStI 3 120),
  (120, oLdI 3 121),
  (121, oLdA 0 122),
  (122, oGet 6 6 125),
  (125, oCmGe 226 128),
  (128, oLdI 2 129),
  (129, oLdI 3 130),
  (130, oBin (fun x y => x >>> (y &&& 31)) 131),
  (131, oI (1) 132),
  (132, oBin (fun x y => x &&& y) 133),
  (133, oI (1) 134),
  (134, oCmNe 149 137),
  (137, oLdA 0 138),
  (138, oLdI 3 139),
  (139, oCallV 108 6 1 0 0 0 0 142),
  (142, oIfNe 149 145),
  (145, oI (1) 146),
  (146, oGoto 150),
  (149, oI (0) 150),
  (150, oStI 4 152),
  (152, oLdA 0 153),
  (153, oGet 6 7 156),
  (156, oLdI 3 157),
  (157, oLdI 4 159),
  (159, oIfEq 179 162),
  (162, oLdA 0 163),
  (163, oGet 6 7 166),
  (166, oLdI 3 167),
  (167, oALd 168),
  (168, oLdI 1 169),
  (169, oCmNe 179 172),
  (172, oLdA 0 173),
  (173, oGet 6 3 176),
  (176, oGoto 185),
  (179, oLdA 0 180),
  (180, oGet 6 7 183),
  (183, oLdI 3 184),
  (184, oALd 185),
  (185, oASt 186),
  (186, oLdA 0 187),
  (187, oGet 6 8 190),
  (190, oLdI 3 191),
  (191, oLdI 4 193),
  (193, oIfEq 213 196),
  (196, oLdA 0 197),
  (197, oGet 6 8 200),
  (200, oLdI 3 201),
  (201, oALd 202),
  (202, oLdI 1 203),
  (203, oCmNe 213 206),
  (206, oLdA 0 207),
  (207, oGet 6 3 210),
  (210, oGoto 219),
  (213, oLdA 0 214),
  (214, oGet 6 8 217),
  (217, oLdI 3 218),
  (218, oALd 219),
  (219, oASt 220),
  (220, oInc 3 (1) 223),
  (223, oGoto 120),
  (226, oLdA 0 227),
  (227, oDup 228),
  (228, oGet 6 3 231),
  (231, oI (1) 232),
  (232, oBin (fun x y => x + y) 233),
  (233, oPutI 6 3 236),
  (236, oLdA 0 237),
  (237, oCallV 109 6 0 0 0 0 0 240),
  (240, oPop 241),
  (241, oLdA 0 242),
  (242, oGet 6 3 245),
  (245, oI (1) 246),
  (246, oBin (fun x y => x - y) 247),
  (247, oRetI)]
set_option maxRecDepth 100000 in
theorem ck_X6_part {ini : Bool} : ∀ x ∈ cd_X6_part, OpOK qMT cX6_part RX6 5 (some .int) ini 0 0 none x.1 x.2 :=
  kc (ok_aload_n dX6_part_0 rfl) (
  kc (ok_iload_n dX6_part_1 rfl) (
  kc (ok_callV (T := TX6) dX6_part_2 qm_105 rfl rfl rfl hw_779 hw_781 hw_21 qp_105) (
  kc (ok_if_eq dX6_part_5 (by decide)) (
  kc (ok_iload_n dX6_part_8 rfl) (
  kc (ok_i2l dX6_part_9) (
  kc (ok_lconst dX6_part_10 (by decide)) (
  kc (ok_iconst dX6_part_11 (by decide)) (
  kc (ok_aload_n dX6_part_12 rfl) (
  kc (ok_get (T := TX6) (k := 6) dX6_part_13 rfl hin_X6 (by decide) hw_659) (
  kc (ok_ishl dX6_part_16) (
  kc (ok_iconst dX6_part_17 (by decide)) (
  kc (ok_isub dX6_part_18) (
  kc (ok_i2l dX6_part_19) (
  kc (ok_callS dX6_part_20 qm_102 rfl rfl hw_749 hw_750 qp_102) (
  kc (ok_if_ne dX6_part_23 (by decide)) (
  kc (ok_iconst dX6_part_26 (by decide)) (
  kc (ok_retI dX6_part_27 rfl) (
  kc (ok_aload_n dX6_part_28 rfl) (
  kc (ok_get (T := TX6) (k := 3) dX6_part_29 rfl hin_X6 (by decide) hw_656) (
  kc (ok_bipush dX6_part_32 (by decide)) (
  kc (ok_cm_ne dX6_part_34 (by decide)) (
  kc (ok_bipush dX6_part_37 (by decide)) (
  kc (ok_retI dX6_part_39 rfl) (
  kc (ok_aload_n dX6_part_40 rfl) (
  kc (ok_get (T := TX6) (k := 4) dX6_part_41 rfl hin_X6 (by decide) hw_657) (
  kc (ok_aload_n dX6_part_44 rfl) (
  kc (ok_get (T := TX6) (k := 3) dX6_part_45 rfl hin_X6 (by decide) hw_656) (
  kc (ok_aload_n dX6_part_48 rfl) (
  kc (ok_get (T := TX6) (k := 4) dX6_part_49 rfl hin_X6 (by decide) hw_657) (
  kc (ok_iload_n dX6_part_52 rfl) (
  kc (ok_iaload dX6_part_53) (
  kc (ok_iastore dX6_part_54) (
  kc (ok_iconst dX6_part_55 (by decide)) (
  kc (ok_istore_n dX6_part_56 rfl) (
  kc (ok_iload_n dX6_part_57 rfl) (
  kc (ok_bipush dX6_part_58 (by decide)) (
  kc (ok_cm_ge dX6_part_60 (by decide)) (
  kc (ok_aload_n dX6_part_63 rfl) (
  kc (ok_get (T := TX6) (k := 5) dX6_part_64 rfl hin_X6 (by decide) hw_658) (
  kc (ok_bipush dX6_part_67 (by decide)) (
  kc (ok_iload_n dX6_part_69 rfl) (
  kc (ok_imul dX6_part_70) (
  kc (ok_iload_n dX6_part_71 rfl) (
  kc (ok_iadd dX6_part_72) (
  kc (ok_iaload dX6_part_73) (
  kc (ok_istore dX6_part_74) (
  kc (ok_aload_n dX6_part_76 rfl) (
  kc (ok_get (T := TX6) (k := 5) dX6_part_77 rfl hin_X6 (by decide) hw_658) (
  kc (ok_bipush dX6_part_80 (by decide)) (
  kc (ok_aload_n dX6_part_82 rfl) (
  kc (ok_get (T := TX6) (k := 3) dX6_part_83 rfl hin_X6 (by decide) hw_656) (
  kc (ok_imul dX6_part_86) (
  kc (ok_iload_n dX6_part_87 rfl) (
  kc (ok_iadd dX6_part_88) (
  kc (ok_iload dX6_part_89) (
  kc (ok_iconst dX6_part_91 (by decide)) (
  kc (ok_idiv dX6_part_92) (
  kc (ok_iastore dX6_part_93) (
  kc (ok_aload_n dX6_part_94 rfl) (
  kc (ok_get (T := TX6) (k := 5) dX6_part_95 rfl hin_X6 (by decide) hw_658) (
  kc (ok_bipush dX6_part_98 (by decide)) (
  kc (ok_iload_n dX6_part_100 rfl) (
  kc (ok_imul dX6_part_101) (
  kc (ok_iload_n dX6_part_102 rfl) (
  kc (ok_iadd dX6_part_103) (
  kc (ok_iload dX6_part_104) (
  kc (ok_iload dX6_part_106) (
  kc (ok_iconst dX6_part_108 (by decide)) (
  kc (ok_idiv dX6_part_109) (
  kc (ok_isub dX6_part_110) (
  kc (ok_iastore dX6_part_111) (
  kc (ok_iinc dX6_part_112 (by decide)) (
  kc (ok_goto dX6_part_115 (by decide)) (
  kc (ok_iconst dX6_part_118 (by decide)) (
  kc (ok_istore_n dX6_part_119 rfl) (
  kc (ok_iload_n dX6_part_120 rfl) (
  kc (ok_aload_n dX6_part_121 rfl) (
  kc (ok_get (T := TX6) (k := 6) dX6_part_122 rfl hin_X6 (by decide) hw_659) (
  kc (ok_cm_ge dX6_part_125 (by decide)) (
  kc (ok_iload_n dX6_part_128 rfl) (
  kc (ok_iload_n dX6_part_129 rfl) (
  kc (ok_ishr dX6_part_130) (
  kc (ok_iconst dX6_part_131 (by decide)) (
  kc (ok_iand dX6_part_132) (
  kc (ok_iconst dX6_part_133 (by decide)) (
  kc (ok_cm_ne dX6_part_134 (by decide)) (
  kc (ok_aload_n dX6_part_137 rfl) (
  kc (ok_iload_n dX6_part_138 rfl) (
  kc (ok_callV (T := TX6) dX6_part_139 qm_108 rfl rfl rfl hw_766 hw_768 hw_20 qp_108) (
  kc (ok_if_ne dX6_part_142 (by decide)) (
  kc (ok_iconst dX6_part_145 (by decide)) (
  kc (ok_goto dX6_part_146 (by decide)) (
  kc (ok_iconst dX6_part_149 (by decide)) (
  kc (ok_istore dX6_part_150) (
  kc (ok_aload_n dX6_part_152 rfl) (
  kc (ok_get (T := TX6) (k := 7) dX6_part_153 rfl hin_X6 (by decide) hw_660) (
  kc (ok_iload_n dX6_part_156 rfl) (
  kc (ok_iload dX6_part_157) (
  kc (ok_if_eq dX6_part_159 (by decide)) (
  kc (ok_aload_n dX6_part_162 rfl) (
  kc (ok_get (T := TX6) (k := 7) dX6_part_163 rfl hin_X6 (by decide) hw_660) (
  kc (ok_iload_n dX6_part_166 rfl) (
  kc (ok_iaload dX6_part_167) (
  kc (ok_iload_n dX6_part_168 rfl) (
  kc (ok_cm_ne dX6_part_169 (by decide)) (
  kc (ok_aload_n dX6_part_172 rfl) (
  kc (ok_get (T := TX6) (k := 3) dX6_part_173 rfl hin_X6 (by decide) hw_656) (
  kc (ok_goto dX6_part_176 (by decide)) (
  kc (ok_aload_n dX6_part_179 rfl) (
  kc (ok_get (T := TX6) (k := 7) dX6_part_180 rfl hin_X6 (by decide) hw_660) (
  kc (ok_iload_n dX6_part_183 rfl) (
  kc (ok_iaload dX6_part_184) (
  kc (ok_iastore dX6_part_185) (
  kc (ok_aload_n dX6_part_186 rfl) (
  kc (ok_get (T := TX6) (k := 8) dX6_part_187 rfl hin_X6 (by decide) hw_661) (
  kc (ok_iload_n dX6_part_190 rfl) (
  kc (ok_iload dX6_part_191) (
  kc (ok_if_eq dX6_part_193 (by decide)) (
  kc (ok_aload_n dX6_part_196 rfl) (
  kc (ok_get (T := TX6) (k := 8) dX6_part_197 rfl hin_X6 (by decide) hw_661) (
  kc (ok_iload_n dX6_part_200 rfl) (
  kc (ok_iaload dX6_part_201) (
  kc (ok_iload_n dX6_part_202 rfl) (
  kc (ok_cm_ne dX6_part_203 (by decide)) (
  kc (ok_aload_n dX6_part_206 rfl) (
  kc (ok_get (T := TX6) (k := 3) dX6_part_207 rfl hin_X6 (by decide) hw_656) (
  kc (ok_goto dX6_part_210 (by decide)) (
  kc (ok_aload_n dX6_part_213 rfl) (
  kc (ok_get (T := TX6) (k := 8) dX6_part_214 rfl hin_X6 (by decide) hw_661) (
  kc (ok_iload_n dX6_part_217 rfl) (
  kc (ok_iaload dX6_part_218) (
  kc (ok_iastore dX6_part_219) (
  kc (ok_iinc dX6_part_220 (by decide)) (
  kc (ok_goto dX6_part_223 (by decide)) (
  kc (ok_aload_n dX6_part_226 rfl) (
  kc (ok_dup dX6_part_227) (
  kc (ok_get (T := TX6) (k := 3) dX6_part_228 rfl hin_X6 (by decide) hw_656) (
  kc (ok_iconst dX6_part_231 (by decide)) (
  kc (ok_iadd dX6_part_232) (
  kc (ok_putI (T := TX6) (k := 3) dX6_part_233 rfl hin_X6 tyX6_ok nmX6 (by decide) hw_656 rfl (tyX6_ok 3 (by decide))) (
  kc (ok_aload_n dX6_part_236 rfl) (
  kc (ok_callV (T := TX6) dX6_part_237 qm_109 rfl rfl rfl hw_758 hw_760 hw_18 qp_109) (
  kc (ok_pop dX6_part_240) (
  kc (ok_aload_n dX6_part_241 rfl) (
  kc (ok_get (T := TX6) (k := 3) dX6_part_242 rfl hin_X6 (by decide) hw_656) (
  kc (ok_iconst dX6_part_245 (by decide)) (
  kc (ok_isub dX6_part_246) (
  kc (ok_retI dX6_part_247 rfl) (
  kn)))))))))))))))))))))))))))))))))))))))))))))))))))))))))))))))))))))))))))))))))))))))))))))))))))))))))))))))))))))))))))))))))))))))))))))))))))))
